/-! price -/
def pq (D : DD) (n : Nat) (y : Int32) (t : Nat) : Bool := !decide (fc D n y 5 0 < fc D n y 5 t)
theorem priceC_44 {D : DD} {n : Nat} {y : Int32} {σ : Mm} (hT : ∀ u, u < 360 → mA σ 0 0 33 u = fc D n y 5 u) : ∀ (m t : Nat), 360 - t < m → t ≤ 360 → F_X11_price_44 m (nI (cn (pq D n y) t)) (nI t) σ = some (nI (cn (pq D n y) 360), σ) := by
  intro m
  induction m with
  | zero => intro t h; omega
  | succ m ih =>
    intro t hm ht
    change B_X11_price_44 (F_X11_price_44 m) _ _ _ = _
    unfold B_X11_price_44 F_X11_price_77
    by_cases hd : 360 ≤ t
    · have e : t = 360 := by omega
      subst e
      rw [if_pos (by decide)]
    have hct : (nI t).toNatClampNeg = t := nI_clamp (by omega)
    have it : inb (nI t) 360 = true := by clear ih hT; grind [gI, gB, gC]
    have i1 := ih (t + 1) (by omega) (by omega)
    have e : cn (pq D n y) (t + 1) = cn (pq D n y) t + (if pq D n y t = true then 1 else 0) := rfl
    rw [e] at i1
    rw [if_neg (show ¬ (360 : Int32) ≤ nI t from nI_ge (b := 360) (by omega) (by decide)), if_pos it, if_pos (show inb 0 360 = true by decide), hct, show (0 : Int32).toNatClampNeg = 0 from rfl, hT t (by omega), hT 0 (by omega), nI_1, nI_1]
    unfold pq at i1 ⊢
    by_cases h : fc D n y 5 0 < fc D n y 5 t
    · rw [decide_eq_true h] at i1
      rw [if_pos h]; exact i1
    · rw [decide_eq_false h] at i1
      rw [if_neg h]; exact i1
theorem priceM_32 {D : DD} {n : Nat} {y : Int32} {σ : Mm} (hT : ∀ u, u < 360 → mA σ 3 0 61 u = fc D n y 5 u) : ∀ (m t : Nat), 360 - t < m → t ≤ 360 → F_X12_price_32 m (nI (cn (pq D n y) t)) (nI t) σ = some (nI (cn (pq D n y) 360), σ) := by
  intro m
  induction m with
  | zero => intro t h; omega
  | succ m ih =>
    intro t hm ht
    change B_X12_price_32 (F_X12_price_32 m) _ _ _ = _
    unfold B_X12_price_32 F_X12_price_62
    by_cases hd : 360 ≤ t
    · have e : t = 360 := by omega
      subst e
      rw [if_pos (by decide)]
    have hct : (nI t).toNatClampNeg = t := nI_clamp (by omega)
    have it : inb (nI t) 360 = true := by clear ih hT; grind [gI, gB, gC]
    have i1 := ih (t + 1) (by omega) (by omega)
    have e : cn (pq D n y) (t + 1) = cn (pq D n y) t + (if pq D n y t = true then 1 else 0) := rfl
    rw [e] at i1
    rw [if_neg (show ¬ (360 : Int32) ≤ nI t from nI_ge (b := 360) (by omega) (by decide)), if_pos it, if_pos (show inb 0 360 = true by decide), hct, show (0 : Int32).toNatClampNeg = 0 from rfl, hT t (by omega), hT 0 (by omega), nI_1, nI_1, show nI (cn (pq D n y) t) + 0 = nI (cn (pq D n y) t) from by grind]
    unfold pq at i1 ⊢
    by_cases h : fc D n y 5 0 < fc D n y 5 t
    · rw [decide_eq_true h] at i1
      rw [if_pos h]; exact i1
    · rw [decide_eq_false h] at i1
      rw [if_neg h]; exact i1
theorem p_price {h : Nat → Bool} {σ : Mm} (hI : Iv h σ) (y n' : Int32) : ∃ (r : Int32) (σ1 : Mm) (σ2 : Mm), F_X11_price y n' σ = some (r, σ1) ∧ F_X12_price y n' σ1 = some (r, σ2) ∧ Iv h σ2 := by
  obtain ⟨D, hC, hM, hW⟩ := id hI.2.2.2.2.2
  have oP := okP_of hI.1
  have h60 := hW.2.1
  have hB : CB D σ := ⟨hI.1, hC⟩
  by_cases hv : (0 ≤ y ∧ y ≤ 5000) ∧ (0 ≤ n' ∧ n' ≤ nI (dN D 1))
  · obtain ⟨v1, v3⟩ := hv
    obtain ⟨n, hn, rfl⟩ := known_nat (by omega) v3
    refine q_call hI fr_X11_price rfl (nI (cn (pq D n y) 360)) ?_ (fun _ => fr_X12_price) rfl (fun σ1 f1 => ?_)
    · unfold F_X11_price F_X11_price_24 F_X11_price_39
      rw [isYearC, if_pos v1, if_neg ne10, if_pos oP, isKnownC (s := 0) hC.2.2.2.2.2.2.2, if_pos v3, if_neg ne10]
      refine Ok_V ((s_lookAt hW (Or.inl rfl) hn hB).frV fr_X11_lookAt) (fun τ hτ => ?_)
      obtain ⟨⟨-, hc, hS⟩, f⟩ := hτ
      refine Ok_V (s_tellAfter hW hn hc hS) (fun υ hυ => ?_)
      have := priceC_44 hυ FU 0 (by show _ < 1000000; omega) (by omega)
      exact ⟨_, this, rfl⟩
    · have hM1 : RM σ1 0 D := hM.fr (f1.sub rfl)
      unfold F_X12_price F_X12_price_12 F_X12_price_23 F_X12_price_27
      rw [isYearM, if_pos v1, if_neg ne10, isKnownM hM1, bnd_s, if_pos v3, if_neg ne10]
      refine Ok_V ((s_layAll hW hn hM1).frV fr_X12_layAll) (fun τ hτ => ?_)
      obtain ⟨⟨hY, hS⟩, f⟩ := hτ
      refine Ok_V (s_strike hW hn (hM1.fr (f.sub rfl)) hY.my hS) (fun υ hυ => ?_)
      have := priceM_32 hυ FU 0 (by show _ < 1000000; omega) (by omega)
      exact ⟨_, this, rfl⟩
  · refine ⟨-1, σ, σ, ?_, ?_, hI⟩
    · unfold F_X11_price
      rw [isYearC, isKnownC (s := 0) hC.2.2.2.2.2.2.2]
      by_cases v1 : 0 ≤ y ∧ y ≤ 5000
      · rw [if_pos v1, if_neg ne10, if_pos oP, if_neg (fun z => hv ⟨v1, z⟩), if_pos rfl]
      · rw [if_neg v1, if_pos rfl]
    · unfold F_X12_price F_X12_price_12
      rw [isYearM, isKnownM hM, bnd_s]
      by_cases v1 : 0 ≤ y ∧ y ≤ 5000
      · rw [if_pos v1, if_neg ne10, if_neg (fun z => hv ⟨v1, z⟩), if_pos rfl]
      · rw [if_neg v1, if_pos rfl]
