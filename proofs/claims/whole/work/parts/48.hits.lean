/-! the sky watched; what a way hits -/
/-- the class's sky at a YEAR -/
def SW (D : DD) (y : Int32) (k : Nat) (σ : Mm) : Prop := mA σ 0 0 25 0 = nI (dN D 4) ∧ ∀ p, p < k → mA σ 0 0 26 p = rs D p y ∧ mA σ 0 0 27 p = dA D 12 p
theorem watch_10 {D : DD} (hW : WF D) {i : Nat} {y : Int32} : ∀ (m k : Nat) (σ : Mm), dN D 4 - k < m → k ≤ dN D 4 → RC σ i 0 D → (∀ k, 2 ≤ k → k < 9 → mA σ 0 0 28 k = 0) → SW D y k σ → Ok (F_X6_watch_10 m i y (nI k) σ) (SW D y (dN D 4)) := by
  have h5 := hW.2.2.2.2.1
  intro m
  induction m with
  | zero => intro k σ h; omega
  | succ m ih =>
    intro k σ hm hk hC h0 hS
    change Ok (B_X6_watch_10 (F_X6_watch_10 m) _ _ _ _) _
    unfold B_X6_watch_10
    rw [hS.1]
    by_cases hd : dN D 4 ≤ k
    · have e : k = dN D 4 := by omega
      subst e
      exact Ok_t (nI_le hd (by omega)) (Ok_r hS)
    have hk2 : k < dN D 4 := by omega
    refine Ok_f (nI_ge (by omega) (by omega)) (Ok_B ((s_rising hW hC hk2 h0).frI fr_X6_rising) (fun v τ hv => ?_))
    obtain ⟨hv, f⟩ := hv
    have hv : v = rs D k y := hv
    have f : Fr W_X6_rising σ τ := f
    have hck : (nI k).toNatClampNeg = k := nI_clamp (by omega)
    have i5 : inb (nI k) 5 = true := by
      have : k < 5 := by omega
      clear ih hC h0 hS hW f; grind [gI, gB, gC]
    have hC1 : RC τ i 0 D := hC.fr (f.sub rfl)
    unfold F_X6_watch_30
    refine Ok_t i5 ?_
    unfold F_X6_watch_31
    refine Ok_t i5 (Ok_t i5 ?_)
    unfold F_X6_watch_43
    rw [hck, nI_1]
    have f2 : Fr [(0, 26, 999), (0, 27, 999)] τ (setA (setA τ 0 0 26 (upd (mA τ 0 0 26) k v)) 0 0 27 (upd (mA (setA τ 0 0 26 (upd (mA τ 0 0 26) k v)) 0 0 27) k (mA (setA τ 0 0 26 (upd (mA τ 0 0 26) k v)) 1 i 9 k))) := Fr.AA (Fr.AA Fr_r rfl) rfl
    refine ih (k + 1) _ (by omega) (by omega) (hC1.fr (f2.sub rfl)) (fun j j2 j9 => ?_) ⟨?_, fun p hp => ?_⟩
    · rw [f2.row (t := 0) (k := 28) 0 rfl]
      have e : inW W_X6_rising 0 28 j = false := by
        have : j = 2 ∨ j = 3 ∨ j = 4 ∨ j = 5 ∨ j = 6 ∨ j = 7 ∨ j = 8 := by omega
        rcases this with rfl | rfl | rfl | rfl | rfl | rfl | rfl <;> rfl
      rw [f.fld 0 e]; exact h0 j j2 j9
    · rw [f2.row (t := 0) (k := 25) 0 rfl, f.row (t := 0) (k := 25) 0 rfl]; exact hS.1
    · simp only [mA_A, mL_A, mP_A, mA_L, mL_L, mP_L, upd_at]
      simp only [and_self, if_true, Nat.reduceEqDiff, false_and, and_false, if_false]
      by_cases e : p = k
      · subst e
        rw [if_pos rfl, if_pos rfl, hv]
        exact ⟨rfl, hC1.2.2.2.2.1 p hk2⟩
      · rw [if_neg e, if_neg e, f.row (t := 0) (k := 26) 0 rfl, f.row (t := 0) (k := 27) 0 rfl]
        exact hS.2 p (by omega)
theorem s_watch {D : DD} (hW : WF D) {i : Nat} {y : Int32} {σ : Mm} (hC : RC σ i 0 D) (h0 : ∀ k, 2 ≤ k → k < 9 → mA σ 0 0 28 k = 0) : Ok (F_X6_watch i y σ) (SW D y (dN D 4)) := by
  unfold F_X6_watch F_X6_watch_8
  have f : Fr [(0, 25, 0)] σ (setA σ 0 0 25 (upd (mA σ 0 0 25) 0 (mA σ 1 i 0 12))) := Fr.A Fr_r rfl
  refine watch_10 hW FU 0 _ (by have := hW.2.2.2.2.1; show _ < 1000000; omega) (by omega) (hC.fr (f.sub rfl)) (fun k k2 k9 => by rw [f.row (t := 0) (k := 28) 0 rfl]; exact h0 k k2 k9) ⟨?_, fun p hp => absurd hp (by omega)⟩
  simp only [mA_A, mL_A, mP_A, mA_L, mL_L, mP_L, upd_at]; simp; exact hC.1.2.2.2.2.1
/-- the model's sky at a YEAR -/
def LSk (D : DD) (y : Int32) (k : Nat) (σ : Mm) : Prop := ∀ p, p < k → mA σ 3 0 58 p = rs D p y
theorem laySky_2 {D : DD} (hW : WF D) {y : Int32} : ∀ (m k : Nat) (σ : Mm), dN D 4 - k < m → k ≤ dN D 4 → RM σ 0 D → LSk D y k σ → Ok (F_X12_laySky_2 m y (nI k) σ) (LSk D y (dN D 4)) := by
  have h5 := hW.2.2.2.2.1
  intro m
  induction m with
  | zero => intro k σ h; omega
  | succ m ih =>
    intro k σ hm hk hM hS
    change Ok (B_X12_laySky_2 (F_X12_laySky_2 m) _ _ _) _
    unfold B_X12_laySky_2
    rw [c0, hM.1.2.2.2.2.1]
    refine Ok_t (by decide) ?_
    by_cases hd : dN D 4 ≤ k
    · have e : k = dN D 4 := by omega
      subst e
      exact Ok_t (nI_le hd (by omega)) (Ok_r hS)
    have hk2 : k < dN D 4 := by omega
    refine Ok_f (nI_ge (by omega) (by omega)) (Ok_B ((s_riseOf hW hk2 hM).frI fr_X12_riseOf) (fun v τ hv => ?_))
    obtain ⟨hv, f⟩ := hv
    have hv : v = rs D k y := hv
    have f : Fr W_X12_riseOf σ τ := f
    have hck : (nI k).toNatClampNeg = k := nI_clamp (by omega)
    have i5 : inb (nI k) 5 = true := by
      have : k < 5 := by omega
      clear ih hM hS hW f; grind [gI, gB, gC]
    unfold F_X12_laySky_23 F_X12_laySky_24
    refine Ok_t i5 ?_
    rw [hck, nI_1]
    refine ih (k + 1) _ (by omega) (by omega) ((hM.fr (f.sub rfl)).fr (Fr.AA Fr_r rfl)) (fun p hp => ?_)
    simp only [mA_A, mL_A, mP_A, mA_L, mL_L, mP_L, upd_at]
    simp only [and_self, if_true]
    by_cases e : p = k
    · subst e; rw [if_pos rfl, hv]
    · rw [if_neg e, f.row (t := 3) (k := 58) 0 rfl]; exact hS p (by omega)
theorem s_laySky {D : DD} (hW : WF D) {y : Int32} {σ : Mm} (hM : RM σ 0 D) : Ok (F_X12_laySky y σ) (LSk D y (dN D 4)) :=
  laySky_2 hW FU 0 σ (by have := hW.2.2.2.2.1; show _ < 1000000; omega) (by omega) hM (fun p hp => absurd hp (by omega))
/-- the PLACES, as bits, that a way hits -/
def hb (D : DD) (y w c : Int32) (su : Bool) : Nat → Int32
  | 0 => 0
  | p + 1 => if f_X12_apart w (rs D p y) ≤ (if su then c - dA D 12 p else c + dA D 12 p) then hb D y w c su p ||| (1 <<< (nI p &&& 31)) else hb D y w c su p
def HB (D : DD) (y w c : Int32) (su : Bool) : Int32 := hb D y w c su (dN D 4)
theorem apart_sym {a b : Int32} (ha : rIn a 359) (hb : rIn b 359) : f_X1_apart a b = f_X12_apart a b := apart_eq ha hb
theorem struck_6 {D : DD} (hW : WF D) {y w c s : Int32} {σ : Mm} (hw : rIn w 359) (hS : SW D y (dN D 4) σ) : ∀ (m p : Nat), dN D 4 - p < m → p ≤ dN D 4 → F_X6_struck_6 m w c s (hb D y w c (decide (s ≠ 0)) p) (nI p) σ = some (HB D y w c (decide (s ≠ 0)), σ) := by
  have h5 := hW.2.2.2.2.1
  intro m
  induction m with
  | zero => intro p h; omega
  | succ m ih =>
    intro p hm hp
    change B_X6_struck_6 (F_X6_struck_6 m) _ _ _ _ _ _ = _
    unfold B_X6_struck_6 F_X6_struck_40 F_X6_struck_67
    rw [hS.1]
    by_cases hd : dN D 4 ≤ p
    · have e : p = dN D 4 := by omega
      subst e
      rw [if_pos (nI_le hd (by omega))]; rfl
    have hp2 : p < dN D 4 := by omega
    have hcp : (nI p).toNatClampNeg = p := nI_clamp (by omega)
    have i5 : inb (nI p) 5 = true := by
      have : p < 5 := by omega
      clear ih hS hW; grind [gI, gB, gC]
    obtain ⟨g1, g2⟩ := hS.2 p hp2
    have i1 := ih (p + 1) (by omega) (by omega)
    have hbs : hb D y w c (decide (s ≠ 0)) (p + 1) = if f_X12_apart w (rs D p y) ≤ (if decide (s ≠ 0) = true then c - dA D 12 p else c + dA D 12 p) then hb D y w c (decide (s ≠ 0)) p ||| (1 <<< (nI p &&& 31)) else hb D y w c (decide (s ≠ 0)) p := rfl
    rw [if_neg (nI_ge (by omega) (by omega)), hcp, g1, g2, apart_eq hw (rs_in D p y), nI_1]
    simp only [i5, if_true]
    have fin : ∀ z : Int32, z = (if decide (s ≠ 0) = true then c - dA D 12 p else c + dA D 12 p) → (if z < f_X12_apart w (rs D p y) then F_X6_struck_6 m w c s (hb D y w c (decide (s ≠ 0)) p) (nI (p + 1)) σ else F_X6_struck_6 m w c s (hb D y w c (decide (s ≠ 0)) p ||| 1 <<< (nI p &&& 31)) (nI (p + 1)) σ) = some (HB D y w c (decide (s ≠ 0)), σ) := by
      intro z hz
      rw [hbs, ← hz] at i1
      generalize f_X12_apart w (rs D p y) = a at *
      by_cases h : z < a
      · rw [if_pos h]
        rw [if_neg (show ¬ a ≤ z by clear i1 ih hS hW hbs hz; grind)] at i1
        exact i1
      · rw [if_neg h]
        rw [if_pos (show a ≤ z by clear i1 ih hS hW hbs hz; grind)] at i1
        exact i1
    by_cases h : s = 0
    · rw [if_pos h]
      exact fin _ (by rw [decide_eq_false (not_not_intro h)]; rfl)
    · rw [if_neg h]
      exact fin _ (by rw [decide_eq_true (p := s ≠ 0) h]; rfl)
theorem s_struck {D : DD} (hW : WF D) {y w c s : Int32} {σ : Mm} (hw : rIn w 359) (hS : SW D y (dN D 4) σ) : F_X6_struck w c s σ = some (HB D y w c (decide (s ≠ 0)), σ) :=
  struck_6 hW hw hS FU 0 (by have := hW.2.2.2.2.1; show _ < 1000000; omega) (by omega)
theorem hitBy_6 {D : DD} (hW : WF D) {y w c s : Int32} {σ : Mm} (hM : RM σ 0 D) (hS : LSk D y (dN D 4) σ) : ∀ (m p : Nat), dN D 4 - p < m → p ≤ dN D 4 → F_X12_hitBy_6 m w c s (hb D y w c (decide (s ≠ 0)) p) (nI p) σ = some (HB D y w c (decide (s ≠ 0)), σ) := by
  have h5 := hW.2.2.2.2.1
  intro m
  induction m with
  | zero => intro p h; omega
  | succ m ih =>
    intro p hm hp
    change B_X12_hitBy_6 (F_X12_hitBy_6 m) _ _ _ _ _ _ = _
    unfold B_X12_hitBy_6 F_X12_hitBy_53 F_X12_hitBy_65
    rw [c0, hM.1.2.2.2.2.1, if_pos (show inb 0 5 = true by decide)]
    by_cases hd : dN D 4 ≤ p
    · have e : p = dN D 4 := by omega
      subst e
      rw [if_pos (nI_le hd (by omega))]; rfl
    have hp2 : p < dN D 4 := by omega
    have hcp : (nI p).toNatClampNeg = p := nI_clamp (by omega)
    have i5 : inb (nI p) 5 = true := by
      have : p < 5 := by omega
      clear ih hS hW hM; grind [gI, gB, gC]
    have i25 : inb (nI p) 25 = true := by
      have : p < 5 := by omega
      clear ih hS hW hM i5; grind [gI, gB, gC]
    have g1 := hS p hp2
    have g2 := hM.2.2.2.2.2.1 p hp2
    simp only [Nat.mul_zero, Nat.zero_add] at g2
    have i1 := ih (p + 1) (by omega) (by omega)
    have hbs : hb D y w c (decide (s ≠ 0)) (p + 1) = if f_X12_apart w (rs D p y) ≤ (if decide (s ≠ 0) = true then c - dA D 12 p else c + dA D 12 p) then hb D y w c (decide (s ≠ 0)) p ||| (1 <<< (nI p &&& 31)) else hb D y w c (decide (s ≠ 0)) p := rfl
    rw [if_neg (nI_ge (by omega) (by omega)), hcp, g1, g2, nI_1]
    simp only [i5, i25, if_true]
    have fin : ∀ z : Int32, z = (if decide (s ≠ 0) = true then c - dA D 12 p else c + dA D 12 p) → (if z < f_X12_apart w (rs D p y) then F_X12_hitBy_6 m w c s (hb D y w c (decide (s ≠ 0)) p) (nI (p + 1)) σ else F_X12_hitBy_6 m w c s (hb D y w c (decide (s ≠ 0)) p ||| 1 <<< (nI p &&& 31)) (nI (p + 1)) σ) = some (HB D y w c (decide (s ≠ 0)), σ) := by
      intro z hz
      rw [hbs, ← hz] at i1
      generalize f_X12_apart w (rs D p y) = a at *
      by_cases h : z < a
      · rw [if_pos h]
        rw [if_neg (show ¬ a ≤ z by clear i1 ih hS hW hM hbs hz; grind)] at i1
        exact i1
      · rw [if_neg h]
        rw [if_pos (show a ≤ z by clear i1 ih hS hW hM hbs hz; grind)] at i1
        exact i1
    by_cases h : s = 0
    · rw [if_pos h]
      exact fin _ (by rw [decide_eq_false (not_not_intro h)]; rfl)
    · rw [if_neg h]
      exact fin _ (by rw [decide_eq_true (p := s ≠ 0) h]; rfl)
theorem s_hitBy {D : DD} (hW : WF D) {y w c s : Int32} {σ : Mm} (hM : RM σ 0 D) (hS : LSk D y (dN D 4) σ) : F_X12_hitBy w c s σ = some (HB D y w c (decide (s ≠ 0)), σ) :=
  hitBy_6 hW hM hS FU 0 (by have := hW.2.2.2.2.1; show _ < 1000000; omega) (by omega)
