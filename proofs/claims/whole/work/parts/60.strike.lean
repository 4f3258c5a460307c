/-! strikeBy: the model's -/
theorem nI_times (a : Nat) : ∀ b, nI (a * b) = nI a * nI b := by
  intro b
  induction b with
  | zero => show nI 0 = nI a * 0; have : nI 0 = 0 := rfl; rw [this]; grind
  | succ b ih => rw [Nat.mul_succ, nI_plus, ih, ← nI_1]; grind
/-- how many a cached turn hits -/
def hC (w : Nat → Int32) (set : Int32) (t : Nat) : Nat := cn (fun l => decide (w (196 * t + l) &&& set ≠ 0)) 196
theorem hC_le {w : Nat → Int32} {set : Int32} {t : Nat} : hC w set t ≤ 196 := cn_le _ 196
theorem strike_36 {w : Nat → Int32} {set : Int32} {t : Nat} {σ : Mm} (rc : Int32 → Int32 → Mm → Option Mm) (ht : t < 360) (hw : mA σ 3 0 64 = w) : ∀ (m l : Nat), 196 - l < m → l ≤ 196 → F_X12_strikeBy_36 rc m set (nI t) (nI (cn (fun l => decide (w (196 * t + l) &&& set ≠ 0)) l)) (nI l) σ = F_X12_strikeBy_78 rc set (nI t) (nI (hC w set t)) (setA σ 3 0 62 (upd (mA σ 3 0 62) t (nI (hC w set t)))) := by
  intro m
  induction m with
  | zero => intro l h; omega
  | succ m ih =>
    intro l hm hl
    change B_X12_strikeBy_36 rc (F_X12_strikeBy_36 rc m) _ _ _ _ _ = _
    unfold B_X12_strikeBy_36
    have hct : (nI t).toNatClampNeg = t := nI_clamp (by omega)
    have it : inb (nI t) 360 = true := by clear ih hw; grind [gI, gB, gC]
    by_cases hd : 196 ≤ l
    · have e : l = 196 := by omega
      subst e
      rw [if_pos (by decide), if_pos it, hct]; rfl
    have hl2 : l < 196 := by omega
    have i1 := ih (l + 1) (by omega) (by omega)
    have e : cn (fun l => decide (w (196 * t + l) &&& set ≠ 0)) (l + 1) = cn (fun l => decide (w (196 * t + l) &&& set ≠ 0)) l + (if decide (w (196 * t + l) &&& set ≠ 0) = true then 1 else 0) := rfl
    rw [e] at i1
    have ea : (196 : Int32) * nI t + nI l = nI (196 * t + l) := by rw [nI_plus, nI_times]; rfl
    have hca : (nI (196 * t + l)).toNatClampNeg = 196 * t + l := nI_clamp (by omega)
    have ia : inb (nI (196 * t + l)) 70560 = true := by
      have : 196 * t + l < 70560 := by omega
      generalize 196 * t + l = z at *
      clear ih hw i1 e ea hca; grind [gI, gB, gC]
    unfold F_X12_strikeBy_65
    rw [if_neg (show ¬ (196 : Int32) ≤ nI l from nI_ge (b := 196) (by omega) (by decide)), ea, if_pos ia, hca, hw, nI_1, nI_1]
    by_cases h : w (196 * t + l) &&& set = 0
    · rw [decide_eq_false (not_not_intro h)] at i1
      rw [if_pos h]; exact i1
    · rw [decide_eq_true (p := _ ≠ (0 : Int32)) h] at i1
      rw [if_neg h]; exact i1
theorem strike_127 {h : Nat → Nat} (hh : ∀ u, h u ≤ 196) {b : Nat → Int32} : ∀ (m t : Nat) (σ : Mm), 360 - t < m → t ≤ 360 → (∀ u, u < 360 → mA σ 3 0 62 u = nI (h u)) → (∀ v, v < 200 → mA σ 3 0 63 v = nI (geN h v 360)) → (∀ u, u < t → mA σ 3 0 61 u = lowd h b u) → (∀ u, t ≤ u → u < 360 → mA σ 3 0 61 u = b u) → Ok (F_X12_strikeBy_127 m (nI t) σ) (fun τ => ∀ u, u < 360 → mA τ 3 0 61 u = lowd h b u) := by
  intro m
  induction m with
  | zero => intro d τ h; omega
  | succ m ih =>
    intro t σ hm ht h32 h34 h1 h2
    change Ok (B_X12_strikeBy_127 (F_X12_strikeBy_127 m) _ _) _
    unfold B_X12_strikeBy_127
    by_cases hc : 360 ≤ t
    · have e : t = 360 := by omega
      subst e
      exact Ok_t (by decide) (Ok_r h1)
    have ht2 : t < 360 := by omega
    have hb := hh t
    have hct : (nI t).toNatClampNeg = t := nI_clamp (by omega)
    have hch : (nI (h t)).toNatClampNeg = h t := nI_clamp (by omega)
    have it : inb (nI t) 360 = true := by clear ih h1 h2 h32 h34 hh; grind [gI, gB, gC]
    have ih' : inb (nI (h t)) 200 = true := by generalize h t = z at *; clear ih h1 h2 h32 h34 hh; grind [gI, gB, gC]
    refine Ok_f (show ¬ (360 : Int32) ≤ nI t from nI_ge (b := 360) (by omega) (by decide)) (Ok_t it ?_)
    rw [hct, h32 t ht2, hch]
    refine Ok_t ih' (Ok_t it ?_)
    unfold F_X12_strikeBy_171
    rw [nI_1, h34 (h t) (by omega), h2 t (Nat.le_refl _) ht2]
    by_cases c : b t ≤ nI (geN h (h t) 360)
    · have el : lowd h b t = b t := by
        unfold lowd
        rw [if_neg]
        generalize nI (geN h (h t) 360) = z at *
        generalize b t = y at *
        clear ih h1 h2 h32 h34 hh; grind
      refine Ok_t c (ih (t + 1) σ (by omega) (by omega) h32 h34 (fun u hu => ?_) (fun u hu hu2 => h2 u (by omega) hu2))
      by_cases e : u = t
      · rw [e, el]; exact h2 t (Nat.le_refl _) ht2
      · exact h1 u (by omega)
    · have el : lowd h b t = nI (geN h (h t) 360) := by
        unfold lowd
        rw [if_pos]
        generalize nI (geN h (h t) 360) = z at *
        generalize b t = y at *
        clear ih h1 h2 h32 h34 hh; grind
      refine Ok_f c (Ok_t it (Ok_t ih' (Ok_t it ?_)))
      have f : Fr [(3, 61, 999)] σ (setA σ 3 0 61 (upd (mA σ 3 0 61) t (nI (geN h (h t) 360)))) := Fr.AA Fr_r rfl
      refine ih (t + 1) _ (by omega) (by omega) ?_ ?_ (fun u hu => ?_) (fun u hu hu2 => ?_)
      · rw [f.row (t := 3) (k := 62) 0 rfl]; exact h32
      · rw [f.row (t := 3) (k := 63) 0 rfl]; exact h34
      · rw [mA_A, if_pos ⟨rfl, rfl, rfl⟩, upd_at]
        by_cases e : u = t
        · rw [if_pos e, e, el]
        · rw [if_neg e]; exact h1 u (by omega)
      · rw [mA_A, if_pos ⟨rfl, rfl, rfl⟩, upd_at, if_neg (by omega)]
        exact h2 u (by omega) hu2
theorem strike_98 {h : Nat → Nat} (hh : ∀ u, h u ≤ 196) {b : Nat → Int32} : ∀ (m k : Nat) (σ : Mm), k < m → k ≤ 199 → (∀ u, u < 360 → mA σ 3 0 62 u = nI (h u)) → (∀ v, k ≤ v → v < 200 → mA σ 3 0 63 v = nI (geN h v 360)) → (∀ v, v < k → mA σ 3 0 63 v = nI (eqN h v 360)) → (∀ u, u < 360 → mA σ 3 0 61 u = b u) → Ok (F_X12_strikeBy_98 m (nI k + -1) σ) (fun τ => ∀ u, u < 360 → mA τ 3 0 61 u = lowd h b u) := by
  intro m
  induction m with
  | zero => intro d τ h; omega
  | succ m ih =>
    intro k σ hm hk h32 h34 h1 h2
    change Ok (B_X12_strikeBy_98 (F_X12_strikeBy_98 m) _ _) _
    unfold B_X12_strikeBy_98
    cases k with
    | zero =>
      exact Ok_t (by decide) (strike_127 hh FU 0 σ (by show _ < 1000000; omega) (by omega) h32 (fun v hv => h34 v (by omega) hv) (fun u hu => absurd hu (by omega)) (fun u _ hu => h2 u hu))
    | succ k =>
      have e : nI (k + 1) + -1 = nI k := by rw [← nI_1]; grind
      rw [e, nI_1]
      have hck : (nI k).toNatClampNeg = k := nI_clamp (by omega)
      have hck1 : (nI (k + 1)).toNatClampNeg = k + 1 := nI_clamp (by omega)
      have ik : inb (nI k) 200 = true := by
        have : k < 200 := by omega
        clear ih h1 h2 h32 h34 hh e; grind [gI, gB, gC]
      have ik1 : inb (nI (k + 1)) 200 = true := by
        have : k + 1 < 200 := by omega
        generalize k + 1 = z at *
        clear ih h1 h2 h32 h34 hh e hm hk hck; grind [gI, gB, gC]
      refine Ok_f (nI_pos (by omega)) (Ok_t ik (Ok_t ik1 (Ok_t ik ?_)))
      rw [hck, hck1, h34 (k + 1) (Nat.le_refl _) (by omega), h1 k (by omega), ← nI_plus, ← geN_s]
      unfold F_X12_strikeBy_119
      have f : Fr [(3, 63, 999)] σ (setA σ 3 0 63 (upd (mA σ 3 0 63) k (nI (geN h k 360)))) := Fr.AA Fr_r rfl
      refine ih k _ (by omega) (by omega) ?_ (fun v hv hv2 => ?_) (fun v hv => ?_) ?_
      · rw [f.row (t := 3) (k := 62) 0 rfl]; exact h32
      · rw [mA_A, if_pos ⟨rfl, rfl, rfl⟩, upd_at]
        by_cases e : v = k
        · rw [if_pos e, e]
        · rw [if_neg e]; exact h34 v (by omega) hv2
      · rw [mA_A, if_pos ⟨rfl, rfl, rfl⟩, upd_at, if_neg (by omega)]
        exact h1 v (by omega)
      · rw [f.row (t := 3) (k := 61) 0 rfl]; exact h2
theorem strike_24 {w b : Nat → Int32} {set : Int32} : ∀ (m t : Nat) (σ : Mm), 360 - t < m → t ≤ 360 → mA σ 3 0 64 = w → (∀ u, u < t → mA σ 3 0 62 u = nI (hC w set u)) → (∀ v, v < 200 → mA σ 3 0 63 v = nI (eqN (hC w set) v t)) → (∀ u, u < 360 → mA σ 3 0 61 u = b u) → Ok (F_X12_strikeBy_24 m set (nI t) σ) (fun τ => ∀ u, u < 360 → mA τ 3 0 61 u = lowd (hC w set) b u) := by
  intro m
  induction m with
  | zero => intro d τ h; omega
  | succ m ih =>
    intro t σ hm ht hw h32 h34 h2
    change Ok (B_X12_strikeBy_24 (F_X12_strikeBy_24 m) _ _ _) _
    unfold B_X12_strikeBy_24
    by_cases hc : 360 ≤ t
    · have e : t = 360 := by omega
      subst e
      have h199 : geN (hC w set) 199 360 = eqN (hC w set) 199 360 := by
        rw [geN_s, geN_0 (v := 199 + 1) (fun u hu => by have := hC_le (w := w) (set := set) (t := u); omega) 360 (by omega)]; omega
      have q : ∀ v, 199 ≤ v → v < 200 → mA σ 3 0 63 v = nI (geN (hC w set) v 360) := fun v hv hv2 => by
        have : v = 199 := by omega
        subst this
        rw [h34 199 (by omega), h199]
      exact Ok_t (by decide) (strike_98 (fun u => hC_le) FU 199 σ (by show _ < 1000000; omega) (by omega) h32 q (fun v hv => h34 v (by omega)) h2)
    have ht2 : t < 360 := by omega
    have hb := hC_le (w := w) (set := set) (t := t)
    refine Ok_f (show ¬ (360 : Int32) ≤ nI t from nI_ge (b := 360) (by omega) (by decide)) ?_
    have := strike_36 (set := set) (F_X12_strikeBy_24 m) ht2 hw FU 0 (by show _ < 1000000; omega) (by omega)
    rw [show F_X12_strikeBy_36 (F_X12_strikeBy_24 m) FU set (nI t) 0 0 σ = _ from this]
    have hch : (nI (hC w set t)).toNatClampNeg = hC w set t := nI_clamp (by omega)
    have ih' : inb (nI (hC w set t)) 200 = true := by generalize hC w set t = z at *; clear ih h2 h32 h34 this hw; grind [gI, gB, gC]
    unfold F_X12_strikeBy_78 F_X12_strikeBy_88
    refine Ok_t ih' (Ok_t ih' ?_)
    rw [hch, nI_1]
    have f : Fr [(3, 62, 999)] σ (setA σ 3 0 62 (upd (mA σ 3 0 62) t (nI (hC w set t)))) := Fr.AA Fr_r rfl
    have e62 : ∀ u, u < t + 1 → mA (setA σ 3 0 62 (upd (mA σ 3 0 62) t (nI (hC w set t)))) 3 0 62 u = nI (hC w set u) := by
      intro u hu
      rw [mA_A, if_pos ⟨rfl, rfl, rfl⟩, upd_at]
      by_cases e : u = t
      · rw [if_pos e, e]
      · rw [if_neg e]; exact h32 u (by omega)
    generalize setA σ 3 0 62 (upd (mA σ 3 0 62) t (nI (hC w set t))) = τ at *
    have h34' : ∀ v, v < 200 → mA τ 3 0 63 v = nI (eqN (hC w set) v t) := by rw [f.row (t := 3) (k := 63) 0 rfl]; exact h34
    have f2 : Fr [(3, 63, 999)] τ (setA τ 3 0 63 (upd (mA τ 3 0 63) (hC w set t) (mA τ 3 0 63 (hC w set t) + 1))) := Fr.AA Fr_r rfl
    refine ih (t + 1) _ (by omega) (by omega) ?_ ?_ (fun v hv => ?_) ?_
    · rw [f2.row (t := 3) (k := 64) 0 rfl, f.row (t := 3) (k := 64) 0 rfl]; exact hw
    · rw [f2.row (t := 3) (k := 62) 0 rfl]; exact e62
    · have e1 : eqN (hC w set) v (t + 1) = eqN (hC w set) v t + (if decide (hC w set t = v) = true then 1 else 0) := rfl
      rw [mA_A, if_pos ⟨rfl, rfl, rfl⟩, upd_at, e1]
      by_cases e : v = hC w set t
      · rw [if_pos e, h34' _ (by omega), nI_1, e, decide_eq_true rfl, if_pos rfl]
      · rw [if_neg e, h34' v hv, decide_eq_false (fun z => e z.symm)]; rfl
    · rw [f2.row (t := 3) (k := 61) 0 rfl, f.row (t := 3) (k := 61) 0 rfl]; exact h2
theorem strike_2 {w b : Nat → Int32} {set : Int32} : ∀ (m d : Nat) (σ : Mm), 200 - d < m → d ≤ 200 → mA σ 3 0 64 = w → (∀ v, v < d → mA σ 3 0 63 v = 0) → (∀ u, u < 360 → mA σ 3 0 61 u = b u) → Ok (F_X12_strikeBy_2 m set (nI d) σ) (fun τ => ∀ u, u < 360 → mA τ 3 0 61 u = lowd (hC w set) b u) := by
  intro m
  induction m with
  | zero => intro d τ h; omega
  | succ m ih =>
    intro d σ hm hd hw hz h2
    change Ok (B_X12_strikeBy_2 (F_X12_strikeBy_2 m) _ _ _) _
    unfold B_X12_strikeBy_2
    by_cases hc : 200 ≤ d
    · have e : d = 200 := by omega
      subst e
      exact Ok_t (by decide) (strike_24 FU 0 σ (by show _ < 1000000; omega) (by omega) hw (fun u hu => absurd hu (by omega)) (fun v hv => by rw [hz v hv]; rfl) h2)
    have hck : (nI d).toNatClampNeg = d := nI_clamp (by omega)
    have i200 : inb (nI d) 200 = true := by
      have : d < 200 := by omega
      clear ih hz h2 hw; grind [gI, gB, gC]
    refine Ok_f (show ¬ (200 : Int32) ≤ nI d from nI_ge (b := 200) (by omega) (by decide)) (Ok_t i200 ?_)
    unfold F_X12_strikeBy_16
    rw [hck, nI_1]
    have f : Fr [(3, 63, 999)] σ (setA σ 3 0 63 (upd (mA σ 3 0 63) d 0)) := Fr.AA Fr_r rfl
    refine ih (d + 1) _ (by omega) (by omega) ?_ (fun e he => ?_) ?_
    · rw [f.row (t := 3) (k := 64) 0 rfl]; exact hw
    · rw [mA_A, if_pos ⟨rfl, rfl, rfl⟩, upd_at]
      by_cases h : e = d
      · rw [if_pos h]
      · rw [if_neg h]; exact hz e (by omega)
    · rw [f.row (t := 3) (k := 61) 0 rfl]; exact h2
theorem s_strikeBy {w b : Nat → Int32} {set : Int32} {σ : Mm} (hw : mA σ 3 0 64 = w) (h2 : ∀ u, u < 360 → mA σ 3 0 61 u = b u) : Ok (F_X12_strikeBy set σ) (fun τ => ∀ u, u < 360 → mA τ 3 0 61 u = lowd (hC w set) b u) :=
  strike_2 FU 0 σ (by show _ < 1000000; omega) (by omega) hw (fun v hv => absurd hv (by omega)) h2
