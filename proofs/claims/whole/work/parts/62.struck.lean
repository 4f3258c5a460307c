/-! striking: the model's -/
theorem lowd_cong {h h' : Nat → Nat} {b : Nat → Int32} {t : Nat} (ht : t < 360) (e : ∀ u, u < 360 → h u = h' u) : lowd h b t = lowd h' b t := by
  have : geN h (h t) 360 = geN h' (h' t) 360 := by
    unfold geN
    rw [e t ht]
    exact cn_cong 360 (fun u hu => by rw [e u hu])
  unfold lowd
  rw [this]
/-- a turn's cache -/
def WC (D : DD) (n : Nat) (y : Int32) (c : Nat) (w : Nat → Int32) (t : Nat) : Prop := ∀ l, l < 196 → w (196 * t + l) = if isL D n l && hRule D n l (-1) then HB D y (f_X1_turned (lDeg D n l) (nI t)) (nI c) false else 0
theorem WC_hC {D : DD} {n c s t : Nat} {y : Int32} {w : Nat → Int32} (h : WC D n y c w t) : hC w (nI s) t = Hc D n y c s t := by
  unfold hC Hc hNc
  refine cn_cong 196 (fun l hl => ?_)
  rw [h l hl]
  unfold stc
  cases (isL D n l && hRule D n l (-1)) with
  | true => rfl
  | false =>
    rw [Bool.false_and]
    exact decide_eq_false (not_not_intro (by show (0 : Int32) &&& nI s = 0; exact Int32.zero_and))
theorem strike_104 {D : DD} (hW : WF D) {n c : Nat} {y : Int32} {b : Nat → Int32} {Q : Mm → Prop} (rc : Int32 → Mm → Option Mm) (hrc : ∀ τ, RM τ 0 D → MY D n (-1) τ → LSk D y (dN D 4) τ → (∀ u, u < 360 → mA τ 3 0 61 u = fs D n y c b (2 ^ dN D 4 - 1) u) → Ok (rc (nI (c + 1)) τ) Q) (hc : c ≤ 4) : ∀ (m s : Nat) (σ : Mm), 2 ^ dN D 4 - s < m → s + 1 ≤ 2 ^ dN D 4 → RM σ 0 D → MY D n (-1) σ → LSk D y (dN D 4) σ → (∀ t, t < 360 → WC D n y c (mA σ 3 0 64) t) → (∀ u, u < 360 → mA σ 3 0 61 u = fs D n y c b s u) → Ok (F_X12_strike_104 rc m (nI c) (nI (s + 1)) σ) Q := by
  have h5 := hW.2.2.2.2.1
  have hp : 2 ^ dN D 4 ≤ 2 ^ 5 := Nat.pow_le_pow_right (by decide) h5
  intro m
  induction m with
  | zero => intro s τ h; omega
  | succ m ih =>
    intro s σ hm hs hM hY hS hw hq
    change Ok (B_X12_strike_104 rc (F_X12_strike_104 rc m) _ _ _) _
    unfold B_X12_strike_104
    rw [c0, hM.1.2.2.2.2.1, pow_set _ h5, nI_1]
    refine Ok_t (by decide) ?_
    by_cases hd : 2 ^ dN D 4 ≤ s + 1
    · have e : 2 ^ dN D 4 - 1 = s := by omega
      rw [e] at hrc
      exact Ok_t (nI_le hd (by omega)) (hrc σ hM hY hS hq)
    refine Ok_f (nI_ge (by omega) (by omega)) ?_
    refine Ok_V ((s_strikeBy (set := nI (s + 1)) rfl hq).frV fr_X12_strikeBy) (fun τ hτ => ?_)
    obtain ⟨hL, f⟩ := hτ
    unfold F_X12_strike_121
    rw [nI_1]
    refine ih (s + 1) τ (by omega) (by omega) (hM.fr (f.sub rfl)) (hY.fr f rfl) (hS.fr f rfl) (by rw [f.row (t := 3) (k := 64) 0 rfl]; exact hw) (fun u hu => ?_)
    rw [hL u hu]
    exact lowd_cong hu (fun v hv => WC_hC (hw v hv))
theorem strike_42 {D : DD} (hW : WF D) {n c t : Nat} {y : Int32} {Q : Mm → Prop} (rc : Int32 → Mm → Option Mm) (rc33 : Int32 → Int32 → Mm → Option Mm) (hn : n ≤ dN D 1) (hc : c ≤ 4) (ht : t < 360) {b : Nat → Int32} (hrc : ∀ τ, RM τ 0 D → MY D n (-1) τ → LSk D y (dN D 4) τ → (∀ u, u < t + 1 → WC D n y c (mA τ 3 0 64) u) → (∀ u, u < 360 → mA τ 3 0 61 u = b u) → Ok (rc33 (nI c) (nI (t + 1)) τ) Q) : ∀ (m l : Nat) (σ : Mm), 196 - l < m → l ≤ 196 → RM σ 0 D → MY D n (-1) σ → LSk D y (dN D 4) σ → (∀ u, u < t → WC D n y c (mA σ 3 0 64) u) → (∀ l', l' < l → mA σ 3 0 64 (196 * t + l') = if isL D n l' && hRule D n l' (-1) then HB D y (f_X1_turned (lDeg D n l') (nI t)) (nI c) false else 0) → (∀ u, u < 360 → mA σ 3 0 61 u = b u) → Ok (F_X12_strike_42 rc rc33 m (nI c) (nI t) (nI l) σ) Q := by
  intro m
  induction m with
  | zero => intro s τ h; omega
  | succ m ih =>
    intro l σ hm hl hM hY hS hw hr hq
    change Ok (B_X12_strike_42 rc rc33 (F_X12_strike_42 rc rc33 m) _ _ _ _) _
    unfold B_X12_strike_42
    by_cases hd : 196 ≤ l
    · have e : l = 196 := by omega
      subst e
      rw [nI_1]
      exact Ok_t (by decide) (hrc σ hM hY hS (fun u hu => by
        by_cases e : u = t
        · subst e; exact hr
        · exact hw u (by omega)) hq)
    have hl2 : l < 196 := by omega
    obtain ⟨-, -, -, -, -, -, d7, d8, -, -⟩ := nI14 hl2
    obtain ⟨-, y2, y3⟩ := hY l hl2
    refine Ok_f (show ¬ (196 : Int32) ≤ nI l from nI_ge (b := 196) (by omega) (by decide)) (Ok_t d8 ?_)
    have ea : (196 : Int32) * nI t + nI l = nI (196 * t + l) := by rw [nI_plus, nI_times]; rfl
    have hca : (nI (196 * t + l)).toNatClampNeg = 196 * t + l := nI_clamp (by omega)
    have ia : inb (nI (196 * t + l)) 70560 = true := by
      have : 196 * t + l < 70560 := by omega
      generalize 196 * t + l = z at *
      clear ih hw hr hq hM hY hS hW y2 y3 d7 d8 hrc ea hca; grind [gI, gB, gC]
    rw [d7, y2, ea]
    have next : ∀ v : Int32, v = (if isL D n l && hRule D n l (-1) then HB D y (f_X1_turned (lDeg D n l) (nI t)) (nI c) false else 0) → Ok (F_X12_strike_89 rc rc33 (F_X12_strike_42 rc rc33 m) (nI c) (nI t) (nI l) v (nI (196 * t + l)) σ) Q := by
      intro v hv
      unfold F_X12_strike_89 F_X12_strike_90
      refine Ok_t ia ?_
      rw [hca, nI_1]
      have f : Fr [(3, 64, 999)] σ (setA σ 3 0 64 (upd (mA σ 3 0 64) (196 * t + l) v)) := Fr.AA Fr_r rfl
      refine ih (l + 1) _ (by omega) (by omega) (hM.fr (f.sub rfl)) (hY.fr f rfl) (hS.fr f rfl) (fun u hu l' hl' => ?_) (fun l' hl' => ?_) (by rw [f.row (t := 3) (k := 61) 0 rfl]; exact hq)
      · rw [mA_A, if_pos ⟨rfl, rfl, rfl⟩, upd_at, if_neg (by omega)]
        exact hw u hu l' hl'
      · rw [mA_A, if_pos ⟨rfl, rfl, rfl⟩, upd_at]
        by_cases e : l' = l
        · rw [if_pos (by omega), hv, e]
        · rw [if_neg (by omega)]; exact hr l' (by omega)
    cases hc : (isL D n l && hRule D n l (-1)) with
    | false =>
      exact Ok_t (by decide) (next 0 (by rw [hc]; rfl))
    | true =>
      have hL : isL D n l = true := by
        simp only [Bool.and_eq_true] at hc; exact hc.1
      refine Ok_f (by decide) (Ok_t d8 ?_)
      rw [y3 hL, turned_eq (lDeg_in hW hn hL) (rIn_nI ht), s_hitBy hW hM hS, bnd_s]
      unfold F_X12_strike_85
      exact next _ (by rw [hc]; rfl)
theorem strike_33 {D : DD} (hW : WF D) {n c : Nat} {y : Int32} {Q : Mm → Prop} (rc : Int32 → Mm → Option Mm) (hn : n ≤ dN D 1) (hc : c ≤ 4) {b : Nat → Int32} (hrc : ∀ τ, RM τ 0 D → MY D n (-1) τ → LSk D y (dN D 4) τ → (∀ u, u < 360 → mA τ 3 0 61 u = fs D n y c b (2 ^ dN D 4 - 1) u) → Ok (rc (nI (c + 1)) τ) Q) : ∀ (m t : Nat) (σ : Mm), 360 - t < m → t ≤ 360 → RM σ 0 D → MY D n (-1) σ → LSk D y (dN D 4) σ → (∀ u, u < t → WC D n y c (mA σ 3 0 64) u) → (∀ u, u < 360 → mA σ 3 0 61 u = b u) → Ok (F_X12_strike_33 rc m (nI c) (nI t) σ) Q := by
  have h5 := hW.2.2.2.2.1
  have hp : 2 ^ dN D 4 ≤ 2 ^ 5 := Nat.pow_le_pow_right (by decide) h5
  have hp1 : 1 ≤ 2 ^ dN D 4 := Nat.one_le_two_pow
  intro m
  induction m with
  | zero => intro s τ h; omega
  | succ m ih =>
    intro t σ hm ht hM hY hS hw hq
    change Ok (B_X12_strike_33 rc (F_X12_strike_33 rc m) _ _ _) _
    unfold B_X12_strike_33
    by_cases hd : 360 ≤ t
    · have e : t = 360 := by omega
      subst e
      exact Ok_t (by decide) (strike_104 hW rc hrc hc FU 0 σ (by show _ < 1000000; omega) (by omega) hM hY hS hw hq)
    refine Ok_f (show ¬ (360 : Int32) ≤ nI t from nI_ge (b := 360) (by omega) (by decide)) ?_
    exact strike_42 hW rc (F_X12_strike_33 rc m) hn hc (by omega) (fun τ a1 a2 a3 a4 a5 => ih (t + 1) τ (by omega) (by omega) a1 a2 a3 a4 a5) FU 0 σ (by show _ < 1000000; omega) (by omega) hM hY hS hw (fun l' h => absurd h (by omega)) hq
theorem strike_26 {D : DD} (hW : WF D) {n : Nat} {y : Int32} (hn : n ≤ dN D 1) : ∀ (m c : Nat) (σ : Mm), 5 - c < m → c ≤ 5 → RM σ 0 D → MY D n (-1) σ → LSk D y (dN D 4) σ → (∀ u, u < 360 → mA σ 3 0 61 u = fc D n y c u) → Ok (F_X12_strike_26 m (nI c) σ) (fun τ => ∀ u, u < 360 → mA τ 3 0 61 u = fc D n y 5 u) := by
  intro m
  induction m with
  | zero => intro c τ h; omega
  | succ m ih =>
    intro c σ hm hc hM hY hS hq
    change Ok (B_X12_strike_26 (F_X12_strike_26 m) _ _) _
    unfold B_X12_strike_26
    by_cases hd : 5 ≤ c
    · have e : c = 5 := by omega
      subst e
      exact Ok_t (by decide) (Ok_r hq)
    refine Ok_f (show ¬ (5 : Int32) ≤ nI c from nI_ge (b := 5) (by omega) (by decide)) ?_
    exact strike_33 hW (F_X12_strike_26 m) hn (by omega) (b := fc D n y c) (fun τ a1 a2 a3 a4 => ih (c + 1) τ (by omega) (by omega) a1 a2 a3 a4) FU 0 σ (by show _ < 1000000; omega) (by omega) hM hY hS (fun u h => absurd h (by omega)) hq
theorem strike_2' {D : DD} (hW : WF D) {n : Nat} {y : Int32} (hn : n ≤ dN D 1) : ∀ (m d : Nat) (σ : Mm), 360 - d < m → d ≤ 360 → RM σ 0 D → MY D n (-1) σ → LSk D y (dN D 4) σ → (∀ u, u < d → mA σ 3 0 61 u = 360) → Ok (F_X12_strike_2 m (nI d) σ) (fun τ => ∀ u, u < 360 → mA τ 3 0 61 u = fc D n y 5 u) := by
  intro m
  induction m with
  | zero => intro c τ h; omega
  | succ m ih =>
    intro d σ hm hd hM hY hS hq
    change Ok (B_X12_strike_2 (F_X12_strike_2 m) _ _) _
    unfold B_X12_strike_2
    by_cases hc : 360 ≤ d
    · have e : d = 360 := by omega
      subst e
      exact Ok_t (by decide) (strike_26 hW hn FU 0 σ (by show _ < 1000000; omega) (by omega) hM hY hS hq)
    have hck : (nI d).toNatClampNeg = d := nI_clamp (by omega)
    have i360 : inb (nI d) 360 = true := by
      have : d < 360 := by omega
      clear ih hq hM hY hS hW; grind [gI, gB, gC]
    refine Ok_f (show ¬ (360 : Int32) ≤ nI d from nI_ge (b := 360) (by omega) (by decide)) (Ok_t i360 ?_)
    unfold F_X12_strike_18
    rw [hck, nI_1]
    have f : Fr [(3, 61, 999)] σ (setA σ 3 0 61 (upd (mA σ 3 0 61) d 360)) := Fr.AA Fr_r rfl
    refine ih (d + 1) _ (by omega) (by omega) (hM.fr (f.sub rfl)) (hY.fr f rfl) (hS.fr f rfl) (fun e he => ?_)
    rw [mA_A, if_pos ⟨rfl, rfl, rfl⟩, upd_at]
    by_cases h : e = d
    · rw [if_pos h]
    · rw [if_neg h]; exact hq e (by omega)
theorem s_strike {D : DD} (hW : WF D) {n : Nat} {y : Int32} {σ : Mm} (hn : n ≤ dN D 1) (hM : RM σ 0 D) (hY : MY D n (-1) σ) (hS : LSk D y (dN D 4) σ) : Ok (F_X12_strike σ) (fun τ => ∀ u, u < 360 → mA τ 3 0 61 u = fc D n y 5 u) :=
  strike_2' hW hn FU 0 σ (by show _ < 1000000; omega) (by omega) hM hY hS (fun u h => absurd h (by omega))
