/-! allHits and many -/
theorem s_turnAll {D : DD} (hW : WF D) {n : Nat} {y ρ set : Int32} {σ : Mm} (hρ : okRu D ρ) (hn : n ≤ dN D 1) (hB : CB D σ) : Ok (F_X11_turnAll set y (nI n) ρ σ) (fun τ => TU D n ρ (dN D 6) y set τ ∧ GTH D n ρ τ ∧ CV D (dN D 6) y τ ∧ GK D n τ ∧ SW D y (dN D 4) τ ∧ GCh D n ρ 196 τ) := by
  unfold F_X11_turnAll F_X11_turnAll_8 F_X11_turnAll_19 F_X11_turnAll_37
  refine Ok_V ((s_lookAt hW hρ hn hB).frV fr_X11_lookAt) (fun τ hτ => ?_)
  obtain ⟨⟨hK, hc, hS⟩, f⟩ := hτ
  have hB1 := hB.fr (f.sub rfl)
  refine Ok_V ((s_gather hW hn hc).frV fr_X10_gather) (fun υ hυ => ?_)
  obtain ⟨hG, f2⟩ := hυ
  have hB2 := hB1.fr (f2.sub rfl)
  refine Ok_t (okP_of hB2.1) ?_
  rw [hB2.2.1.1]
  refine Ok_V ((s_cover hW (hS.fr f2 rfl)).frV fr_X10_cover) (fun φ hφ => ?_)
  obtain ⟨hV, f3⟩ := hφ
  refine Ok_V ((s_spin (set := set) hW hn hV (hG.fr f3 rfl)).frV fr_X10_spin) (fun ψ hψ => ?_)
  obtain ⟨hT, f4⟩ := hψ
  exact Ok_r ⟨hT, (hG.fr f3 rfl).fr f4 rfl, hV.fr f4 rfl, ((hK.fr f2 rfl).fr f3 rfl).fr f4 rfl, ((hS.fr f2 rfl).fr f3 rfl).fr f4 rfl, ((hc.fr f2 rfl).fr f3 rfl).fr f4 rfl⟩
theorem rIn_nI {t : Nat} (h : t < 360) : rIn (nI t) 359 := ⟨nI_pos' (by omega), nI_le (b := 359) (by omega) (by decide)⟩
theorem sum_4 {D : DD} {n : Nat} {ρ y set : Int32} {σ : Mm} (hT : TU D n ρ (dN D 6) y set σ) : ∀ (m t : Nat), 360 - t < m → t ≤ 360 → F_X10_sum_4 m (sm (fun t => nI (hN D n ρ y set (nI t) false)) t) (nI t) σ = some (sm (fun t => nI (hN D n ρ y set (nI t) false)) 360, σ) := by
  intro m
  induction m with
  | zero => intro t h; omega
  | succ m ih =>
    intro t hm ht
    change B_X10_sum_4 (F_X10_sum_4 m) _ _ _ = _
    unfold B_X10_sum_4 F_X10_sum_20
    by_cases hd : 360 ≤ t
    · have e : t = 360 := by omega
      subst e
      rw [if_pos (by decide)]
    have hct : (nI t).toNatClampNeg = t := nI_clamp (by omega)
    have it : inb (nI t) 360 = true := by clear ih hT; grind [gI, gB, gC]
    have i1 := ih (t + 1) (by omega) (by omega)
    rw [sm_s] at i1
    rw [if_neg (show ¬ (360 : Int32) ≤ nI t from nI_ge (b := 360) (by omega) (by decide)), if_pos it, hct, hT t (by omega), hNc_6, nI_1]
    exact i1
theorem allHits_24 {D : DD} (hW : WF D) {n : Nat} {y set : Int32} {σ : Mm} (hn : n ≤ dN D 1) (hM : RM σ 0 D) (hS : LSk D y (dN D 4) σ) (hY : MY D n (-1) σ) : ∀ (m t : Nat), 360 - t < m → t ≤ 360 → F_X12_allHits_24 m set (sm (fun t => nI (hN D n (-1) y set (nI t) false)) t) (nI t) σ = some (sm (fun t => nI (hN D n (-1) y set (nI t) false)) 360, σ) := by
  intro m
  induction m with
  | zero => intro t h; omega
  | succ m ih =>
    intro t hm ht
    change B_X12_allHits_24 (F_X12_allHits_24 m) _ _ _ _ = _
    unfold B_X12_allHits_24
    by_cases hd : 360 ≤ t
    · have e : t = 360 := by omega
      subst e
      rw [if_pos (by decide)]
    have i1 := ih (t + 1) (by omega) (by omega)
    rw [sm_s] at i1
    rw [if_neg (show ¬ (360 : Int32) ≤ nI t from nI_ge (b := 360) (by omega) (by decide)), s_hitsOf hW hn (rIn_nI (by omega)) hM hS hY, bnd_s]
    unfold F_X12_allHits_42
    rw [nI_1, show decide ((0 : Int32) ≠ 0) = false from by decide]
    exact i1
theorem p_allHits {h : Nat → Bool} {σ : Mm} (hI : Iv h σ) (set y n' : Int32) : ∃ (r : Int32) (σ1 : Mm) (σ2 : Mm), F_X11_allHits set y n' σ = some (r, σ1) ∧ F_X12_allHits set y n' σ1 = some (r, σ2) ∧ Iv h σ2 := by
  obtain ⟨D, hC, hM, hW⟩ := id hI.2.2.2.2.2
  have oP := okP_of hI.1
  have h60 := hW.2.1
  have hB : CB D σ := ⟨hI.1, hC⟩
  by_cases v1 : asK D set y n'
  · obtain ⟨n, hn, rfl⟩ := known_nat (by omega) v1.2.2
    refine q_call hI fr_X11_allHits rfl (sm (fun t => nI (hN D n (-1) y set (nI t) false)) 360) ?_ (fun _ => fr_X12_allHits) rfl (fun σ1 f1 => ?_)
    · unfold F_X11_allHits F_X11_allHits_20
      rw [if_pos oP, if_neg (fun z => (askedC hC).mp z v1)]
      refine Ok_V (s_turnAll hW (Or.inl rfl) hn hB) (fun τ hτ => ?_)
      have := sum_4 hτ.1 FU 0 (by show _ < 1000000; omega) (by omega)
      unfold F_X10_sum F_X11_allHits_27
      have e : F_X10_sum_4 FU 0 0 τ = some (sm (fun t => nI (hN D n (-1) y set (nI t) false)) 360, τ) := this
      rw [e, bnd_s]
      exact Ok_r rfl
    · have hM1 : RM σ1 0 D := hM.fr (f1.sub rfl)
      unfold F_X12_allHits F_X12_allHits_7 F_X12_allHits_18
      rw [isSetM hM1 v1, bnd_s, if_neg ne10]
      refine Ok_V ((s_layAll hW hn hM1).frV fr_X12_layAll) (fun τ hτ => ?_)
      obtain ⟨⟨hY, hS⟩, f⟩ := hτ
      have := allHits_24 (set := set) hW hn (hM1.fr (f.sub rfl)) hS hY.my FU 0 (by show _ < 1000000; omega) (by omega)
      exact ⟨_, this, rfl⟩
  · refine ⟨-1, σ, σ, ?_, ?_, hI⟩
    · unfold F_X11_allHits
      rw [if_pos oP, if_pos ((askedC hC).mpr v1)]
    · unfold F_X12_allHits F_X12_allHits_7
      rw [isSetMN hM v1, bnd_s, if_pos rfl]
/-- whether a turn hits as many as no turn -/
def mq (D : DD) (n : Nat) (ρ y set : Int32) (t : Nat) : Bool := !decide (nI (hN D n ρ y set (nI t) false) < nI (hN D n ρ y set (nI 0) false))
theorem many_4 {D : DD} {n : Nat} {ρ y set : Int32} {σ : Mm} (hT : TU D n ρ (dN D 6) y set σ) : ∀ (m t : Nat), 360 - t < m → t ≤ 360 → F_X10_asManyAsUnturned_4 m (nI (cn (mq D n ρ y set) t)) (nI t) σ = some (nI (cn (mq D n ρ y set) 360), σ) := by
  intro m
  induction m with
  | zero => intro t h; omega
  | succ m ih =>
    intro t hm ht
    change B_X10_asManyAsUnturned_4 (F_X10_asManyAsUnturned_4 m) _ _ _ = _
    unfold B_X10_asManyAsUnturned_4 F_X10_asManyAsUnturned_29
    by_cases hd : 360 ≤ t
    · have e : t = 360 := by omega
      subst e
      rw [if_pos (by decide)]
    have hct : (nI t).toNatClampNeg = t := nI_clamp (by omega)
    have it : inb (nI t) 360 = true := by clear ih hT; grind [gI, gB, gC]
    have i1 := ih (t + 1) (by omega) (by omega)
    have e : cn (mq D n ρ y set) (t + 1) = cn (mq D n ρ y set) t + (if mq D n ρ y set t = true then 1 else 0) := rfl
    rw [e] at i1
    rw [if_neg (show ¬ (360 : Int32) ≤ nI t from nI_ge (b := 360) (by omega) (by decide)), if_pos it, if_pos (show inb 0 360 = true by decide), hct, show (0 : Int32).toNatClampNeg = 0 from rfl, hT t (by omega), hNc_6, hT 0 (by omega), hNc_6, nI_1, nI_1]
    unfold mq at i1 ⊢
    by_cases h : nI (hN D n ρ y set (nI t) false) < nI (hN D n ρ y set (nI 0) false)
    · rw [decide_eq_true h] at i1
      rw [if_pos h]; exact i1
    · rw [decide_eq_false h] at i1
      rw [if_neg h]; exact i1
theorem many_13 {D : DD} (hW : WF D) {n : Nat} {ρ y set : Int32} {σ : Mm} (hn : n ≤ dN D 1) (hM : RM σ 0 D) (hS : LSk D y (dN D 4) σ) (hY : MY D n ρ σ) : ∀ (m t : Nat), 360 - t < m → t ≤ 360 → F_X12_asMany_13 m set (nI (hN D n ρ y set (nI 0) false)) (nI (cn (mq D n ρ y set) t)) (nI t) σ = some (nI (cn (mq D n ρ y set) 360), σ) := by
  intro m
  induction m with
  | zero => intro t h; omega
  | succ m ih =>
    intro t hm ht
    change B_X12_asMany_13 (F_X12_asMany_13 m) _ _ _ _ _ = _
    unfold B_X12_asMany_13
    by_cases hd : 360 ≤ t
    · have e : t = 360 := by omega
      subst e
      rw [if_pos (by decide)]
    have i1 := ih (t + 1) (by omega) (by omega)
    have e : cn (mq D n ρ y set) (t + 1) = cn (mq D n ρ y set) t + (if mq D n ρ y set t = true then 1 else 0) := rfl
    rw [e] at i1
    rw [if_neg (show ¬ (360 : Int32) ≤ nI t from nI_ge (b := 360) (by omega) (by decide)), s_hitsOf hW hn (rIn_nI (by omega)) hM hS hY, bnd_s]
    unfold F_X12_asMany_30 F_X12_asMany_39
    rw [nI_1, nI_1, show decide ((0 : Int32) ≠ 0) = false from by decide, show nI (cn (mq D n ρ y set) t) + 0 = nI (cn (mq D n ρ y set) t) from by grind]
    unfold mq at i1 ⊢
    by_cases h : nI (hN D n ρ y set (nI t) false) < nI (hN D n ρ y set (nI 0) false)
    · rw [decide_eq_true h] at i1
      rw [if_pos h]; exact i1
    · rw [decide_eq_false h] at i1
      rw [if_neg h]; exact i1
theorem p_many {h : Nat → Bool} {σ : Mm} (hI : Iv h σ) (set y n' : Int32) : ∃ (r : Int32) (σ1 : Mm) (σ2 : Mm), F_X11_many set y n' σ = some (r, σ1) ∧ F_X12_many set y n' σ1 = some (r, σ2) ∧ Iv h σ2 := by
  obtain ⟨D, hC, hM, hW⟩ := id hI.2.2.2.2.2
  have oP := okP_of hI.1
  have h60 := hW.2.1
  have hB : CB D σ := ⟨hI.1, hC⟩
  by_cases v1 : asK D set y n'
  · obtain ⟨n, hn, rfl⟩ := known_nat (by omega) v1.2.2
    refine q_call hI fr_X11_many rfl (nI (cn (mq D n (-1) y set) 360)) ?_ (fun _ => fr_X12_many) rfl (fun σ1 f1 => ?_)
    · unfold F_X11_many F_X11_many_20
      rw [if_pos oP, if_neg (fun z => (askedC hC).mp z v1)]
      refine Ok_V (s_turnAll hW (Or.inl rfl) hn hB) (fun τ hτ => ?_)
      have := many_4 hτ.1 FU 0 (by show _ < 1000000; omega) (by omega)
      unfold F_X10_asManyAsUnturned F_X11_many_27
      have e : F_X10_asManyAsUnturned_4 FU 0 0 τ = some (nI (cn (mq D n (-1) y set) 360), τ) := this
      rw [e, bnd_s]
      exact Ok_r rfl
    · have hM1 : RM σ1 0 D := hM.fr (f1.sub rfl)
      unfold F_X12_many F_X12_many_7 F_X12_many_18 F_X12_many_23
      rw [isSetM hM1 v1, bnd_s, if_neg ne10]
      refine Ok_V ((s_layAll hW hn hM1).frV fr_X12_layAll) (fun τ hτ => ?_)
      obtain ⟨⟨hY, hS⟩, f⟩ := hτ
      have hM2 := hM1.fr (f.sub rfl)
      have e := many_13 (set := set) hW hn hM2 hS hY.my FU 0 (by show _ < 1000000; omega) (by omega)
      unfold F_X12_asMany F_X12_asMany_7
      have e1 : F_X12_hitsOf set 0 0 τ = some (nI (hN D n (-1) y set (nI 0) false), τ) := s_hitsOf (t := 0) (s := 0) hW hn ⟨by decide, by decide⟩ hM2 hS hY.my
      have e2 : F_X12_asMany_13 FU set (nI (hN D n (-1) y set (nI 0) false)) 0 0 τ = some (nI (cn (mq D n (-1) y set) 360), τ) := e
      rw [e1, bnd_s, e2, bnd_s]
      exact Ok_r rfl
  · refine ⟨-1, σ, σ, ?_, ?_, hI⟩
    · unfold F_X11_many
      rw [if_pos oP, if_pos ((askedC hC).mpr v1)]
    · unfold F_X12_many F_X12_many_7
      rw [isSetMN hM v1, bnd_s, if_pos rfl]
