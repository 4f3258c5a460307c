/-! lower: as many as or more, of all turns -/
theorem fill_ta {σ : Mm} : ∀ (m d : Nat) (τ : Mm), 184 - d < m → d ≤ 184 → (∀ e, e < d → mA τ 0 0 34 e = 0) → Ok (F_J7_fill_53178_ta_5 m 0 (nI d) 184 τ) (fun υ => ∀ e, e < 184 → mA υ 0 0 34 e = 0) := by
  intro m
  induction m with
  | zero => intro d τ h; omega
  | succ m ih =>
    intro d τ hm hd hq
    change Ok (B_J7_fill_53178_ta_5 (F_J7_fill_53178_ta_5 m) _ _ _ _) _
    unfold B_J7_fill_53178_ta_5
    by_cases hc : 184 ≤ d
    · have e : d = 184 := by omega
      subst e
      exact Ok_t (by decide) (Ok_r hq)
    have hck : (nI d).toNatClampNeg = d := nI_clamp (by omega)
    have i184 : inb (nI d) 184 = true := by
      have : d < 184 := by omega
      clear ih hq; grind [gI, gB, gC]
    refine Ok_f (show ¬ (184 : Int32) ≤ nI d from nI_ge (b := 184) (by omega) (by decide)) (Ok_t i184 ?_)
    unfold F_J7_fill_53178_ta_14
    rw [hck, nI_1]
    refine ih (d + 1) _ (by omega) (by omega) (fun e he => ?_)
    rw [mA_A, if_pos ⟨rfl, rfl, rfl⟩, upd_at]
    by_cases h : e = d
    · rw [if_pos h]
    · rw [if_neg h]; exact hq e (by omega)
/-- how many of the turns have h at v; at v or more -/
def eqN (h : Nat → Nat) (v l : Nat) : Nat := cn (fun u => decide (h u = v)) l
def geN (h : Nat → Nat) (v l : Nat) : Nat := cn (fun u => decide (v ≤ h u)) l
theorem geN_s {h : Nat → Nat} {v : Nat} : ∀ l, geN h v l = eqN h v l + geN h (v + 1) l := by
  intro l
  induction l with
  | zero => rfl
  | succ l ih =>
    have e1 : geN h v (l + 1) = geN h v l + (if decide (v ≤ h l) = true then 1 else 0) := rfl
    have e2 : eqN h v (l + 1) = eqN h v l + (if decide (h l = v) = true then 1 else 0) := rfl
    have e3 : geN h (v + 1) (l + 1) = geN h (v + 1) l + (if decide (v + 1 ≤ h l) = true then 1 else 0) := rfl
    rw [e1, e2, e3, ih]
    simp only [decide_eq_true_eq]
    by_cases a : h l = v
    · rw [if_pos (by omega), if_pos a, if_neg (by omega)]; omega
    · by_cases b : v ≤ h l
      · rw [if_pos b, if_neg a, if_pos (by omega)]; omega
      · rw [if_neg b, if_neg a, if_neg (by omega)]; omega
theorem geN_0 {h : Nat → Nat} {v : Nat} (hh : ∀ u, u < 360 → h u < v) : ∀ l, l ≤ 360 → geN h v l = 0 := by
  intro l
  induction l with
  | zero => intro _; rfl
  | succ l ih =>
    intro hl
    have e1 : geN h v (l + 1) = geN h v l + (if decide (v ≤ h l) = true then 1 else 0) := rfl
    have := hh l (by omega)
    rw [e1, ih (by omega), decide_eq_false (by omega)]; rfl
/-- the less of what is and how many turns hit as many or more -/
def lowd (h : Nat → Nat) (b : Nat → Int32) (t : Nat) : Int32 := if nI (geN h (h t) 360) < b t then nI (geN h (h t) 360) else b t
theorem lower_71 {h : Nat → Nat} (hh : ∀ u, u < 360 → h u ≤ 182) {b : Nat → Int32} : ∀ (m t : Nat) (σ : Mm), 360 - t < m → t ≤ 360 → (∀ u, u < 360 → mA σ 0 0 32 u = nI (h u)) → (∀ v, v < 184 → mA σ 0 0 34 v = nI (geN h v 360)) → (∀ u, u < t → mA σ 0 0 33 u = lowd h b u) → (∀ u, t ≤ u → u < 360 → mA σ 0 0 33 u = b u) → Ok (F_X10_lower_71 m (nI t) σ) (fun τ => ∀ u, u < 360 → mA τ 0 0 33 u = lowd h b u) := by
  intro m
  induction m with
  | zero => intro d τ h; omega
  | succ m ih =>
    intro t σ hm ht h32 h34 h1 h2
    change Ok (B_X10_lower_71 (F_X10_lower_71 m) _ _) _
    unfold B_X10_lower_71
    by_cases hc : 360 ≤ t
    · have e : t = 360 := by omega
      subst e
      exact Ok_t (by decide) (Ok_r h1)
    have ht2 : t < 360 := by omega
    have hb := hh t ht2
    have hct : (nI t).toNatClampNeg = t := nI_clamp (by omega)
    have hch : (nI (h t)).toNatClampNeg = h t := nI_clamp (by omega)
    have it : inb (nI t) 360 = true := by clear ih h1 h2 h32 h34 hh; grind [gI, gB, gC]
    have ih' : inb (nI (h t)) 184 = true := by generalize h t = z at *; clear ih h1 h2 h32 h34 hh; grind [gI, gB, gC]
    refine Ok_f (show ¬ (360 : Int32) ≤ nI t from nI_ge (b := 360) (by omega) (by decide)) (Ok_t it (Ok_t it ?_))
    rw [hct, h32 t ht2, hch]
    refine Ok_t ih' (Ok_t it ?_)
    unfold F_X10_lower_104
    rw [nI_1, h34 (h t) (by omega), h2 t (Nat.le_refl _) ht2]
    have f : Fr [(0, 33, 999)] σ (setA σ 0 0 33 (upd (mA σ 0 0 33) t (f_J9_min_7cf53 (b t) (nI (geN h (h t) 360))))) := Fr.AA Fr_r rfl
    refine ih (t + 1) _ (by omega) (by omega) ?_ ?_ (fun u hu => ?_) (fun u hu hu2 => ?_)
    · rw [f.row (t := 0) (k := 32) 0 rfl]; exact h32
    · rw [f.row (t := 0) (k := 34) 0 rfl]; exact h34
    · rw [mA_A, if_pos ⟨rfl, rfl, rfl⟩, upd_at]
      by_cases e : u = t
      · rw [if_pos e, e]; rfl
      · rw [if_neg e]; exact h1 u (by omega)
    · rw [mA_A, if_pos ⟨rfl, rfl, rfl⟩, upd_at, if_neg (by omega)]
      exact h2 u (by omega) hu2
theorem lower_42 {h : Nat → Nat} (hh : ∀ u, u < 360 → h u ≤ 182) {b : Nat → Int32} : ∀ (m k : Nat) (σ : Mm), k < m → k ≤ 183 → (∀ u, u < 360 → mA σ 0 0 32 u = nI (h u)) → (∀ v, k ≤ v → v < 184 → mA σ 0 0 34 v = nI (geN h v 360)) → (∀ v, v < k → mA σ 0 0 34 v = nI (eqN h v 360)) → (∀ u, u < 360 → mA σ 0 0 33 u = b u) → Ok (F_X10_lower_42 m (nI k + -1) σ) (fun τ => ∀ u, u < 360 → mA τ 0 0 33 u = lowd h b u) := by
  intro m
  induction m with
  | zero => intro d τ h; omega
  | succ m ih =>
    intro k σ hm hk h32 h34 h1 h2
    change Ok (B_X10_lower_42 (F_X10_lower_42 m) _ _) _
    unfold B_X10_lower_42
    cases k with
    | zero =>
      exact Ok_t (by decide) (lower_71 hh FU 0 σ (by show _ < 1000000; omega) (by omega) h32 (fun v hv => h34 v (by omega) hv) (fun u hu => absurd hu (by omega)) (fun u _ hu => h2 u hu))
    | succ k =>
      have e : nI (k + 1) + -1 = nI k := by rw [← nI_1]; grind
      rw [e, nI_1]
      have hck : (nI k).toNatClampNeg = k := nI_clamp (by omega)
      have hck1 : (nI (k + 1)).toNatClampNeg = k + 1 := nI_clamp (by omega)
      have ik : inb (nI k) 184 = true := by have : k < 184 := by omega
                                            clear ih h1 h2 h32 h34 hh e; grind [gI, gB, gC]
      have ik1 : inb (nI (k + 1)) 184 = true := by have : k + 1 < 184 := by omega
                                                   generalize k + 1 = z at *
                                                   clear ih h1 h2 h32 h34 hh e hm hk hck; grind [gI, gB, gC]
      refine Ok_f (nI_pos (by omega)) (Ok_t ik (Ok_t ik1 (Ok_t ik ?_)))
      rw [hck, hck1, h34 (k + 1) (Nat.le_refl _) (by omega), h1 k (by omega), ← nI_plus, ← geN_s]
      unfold F_X10_lower_63
      have f : Fr [(0, 34, 999)] σ (setA σ 0 0 34 (upd (mA σ 0 0 34) k (nI (geN h k 360)))) := Fr.AA Fr_r rfl
      refine ih k _ (by omega) (by omega) ?_ (fun v hv hv2 => ?_) (fun v hv => ?_) ?_
      · rw [f.row (t := 0) (k := 32) 0 rfl]; exact h32
      · rw [mA_A, if_pos ⟨rfl, rfl, rfl⟩, upd_at]
        by_cases e : v = k
        · rw [if_pos e, e]
        · rw [if_neg e]; exact h34 v (by omega) hv2
      · rw [mA_A, if_pos ⟨rfl, rfl, rfl⟩, upd_at, if_neg (by omega)]
        exact h1 v (by omega)
      · rw [f.row (t := 0) (k := 33) 0 rfl]; exact h2
theorem lower_10 {h : Nat → Nat} (hh : ∀ u, u < 360 → h u ≤ 182) {b : Nat → Int32} : ∀ (m t : Nat) (σ : Mm), 360 - t < m → t ≤ 360 → (∀ u, u < 360 → mA σ 0 0 32 u = nI (h u)) → (∀ v, v < 184 → mA σ 0 0 34 v = nI (eqN h v t)) → (∀ u, u < 360 → mA σ 0 0 33 u = b u) → Ok (F_X10_lower_10 m (nI t) σ) (fun τ => ∀ u, u < 360 → mA τ 0 0 33 u = lowd h b u) := by
  intro m
  induction m with
  | zero => intro d τ h; omega
  | succ m ih =>
    intro t σ hm ht h32 h34 h2
    change Ok (B_X10_lower_10 (F_X10_lower_10 m) _ _) _
    unfold B_X10_lower_10
    by_cases hc : 360 ≤ t
    · have e : t = 360 := by omega
      subst e
      have h183 : geN h 183 360 = eqN h 183 360 := by
        rw [geN_s, geN_0 (v := 183 + 1) (fun u hu => by have := hh u hu; omega) 360 (by omega)]; omega
      have q : ∀ v, 183 ≤ v → v < 184 → mA σ 0 0 34 v = nI (geN h v 360) := fun v hv hv2 => by
        have : v = 183 := by omega
        subst this
        rw [h34 183 (by omega), h183]
      exact Ok_t (by decide) (lower_42 hh FU 183 σ (by show _ < 1000000; omega) (by omega) h32 q (fun v hv => h34 v (by omega)) h2)
    have ht2 : t < 360 := by omega
    have hb := hh t ht2
    have hct : (nI t).toNatClampNeg = t := nI_clamp (by omega)
    have hch : (nI (h t)).toNatClampNeg = h t := nI_clamp (by omega)
    have it : inb (nI t) 360 = true := by clear ih h2 h32 h34 hh; grind [gI, gB, gC]
    have ih' : inb (nI (h t)) 184 = true := by generalize h t = z at *; clear ih h2 h32 h34 hh; grind [gI, gB, gC]
    refine Ok_f (show ¬ (360 : Int32) ≤ nI t from nI_ge (b := 360) (by omega) (by decide)) (Ok_t it ?_)
    rw [hct, h32 t ht2, hch]
    refine Ok_t ih' (Ok_t ih' ?_)
    unfold F_X10_lower_32
    rw [nI_1]
    have f : Fr [(0, 34, 999)] σ (setA σ 0 0 34 (upd (mA σ 0 0 34) (h t) (mA σ 0 0 34 (h t) + 1))) := Fr.AA Fr_r rfl
    refine ih (t + 1) _ (by omega) (by omega) ?_ (fun v hv => ?_) ?_
    · rw [f.row (t := 0) (k := 32) 0 rfl]; exact h32
    · have e1 : eqN h v (t + 1) = eqN h v t + (if decide (h t = v) = true then 1 else 0) := rfl
      rw [mA_A, if_pos ⟨rfl, rfl, rfl⟩, upd_at, e1]
      by_cases e : v = h t
      · rw [if_pos e, e, h34 (h t) (by omega), nI_1, decide_eq_true rfl, if_pos rfl]
      · rw [if_neg e, h34 v hv, decide_eq_false (fun z => e z.symm)]; rfl
    · rw [f.row (t := 0) (k := 33) 0 rfl]; exact h2
theorem s_lower {h : Nat → Nat} (hh : ∀ u, u < 360 → h u ≤ 182) {b : Nat → Int32} {σ : Mm} (h32 : ∀ u, u < 360 → mA σ 0 0 32 u = nI (h u)) (h33 : ∀ u, u < 360 → mA σ 0 0 33 u = b u) : Ok (F_X10_lower σ) (fun τ => ∀ u, u < 360 → mA τ 0 0 33 u = lowd h b u) := by
  unfold F_X10_lower F_X10_lower_8
  have h0 : Ok (F_J7_fill_53178_ta 0 σ) (fun υ => ∀ e, e < 184 → mA υ 0 0 34 e = 0) := fill_ta (σ := σ) FU 0 σ (by show _ < 1000000; omega) (by omega) (fun e he => absurd he (by omega))
  refine Ok_V (h0.frV fr_J7_fill_53178_ta) (fun τ hτ => ?_)
  obtain ⟨hz, f⟩ := hτ
  refine lower_10 hh FU 0 τ (by show _ < 1000000; omega) (by omega) ?_ (fun v hv => ?_) ?_
  · rw [f.row (t := 0) (k := 32) 0 rfl]; exact h32
  · rw [hz v hv]; rfl
  · rw [f.row (t := 0) (k := 33) 0 rfl]; exact h33
