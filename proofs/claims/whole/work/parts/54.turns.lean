/-! turns: what is gathered and covered -/
theorem fill_lk {σ : Mm} : ∀ (m d : Nat) (τ : Mm), 360 - d < m → d ≤ 360 → (∀ e, e < d → mA τ 0 0 30 e = 0) → Ok (F_J7_fill_53178_lk_5 m 0 (nI d) 360 τ) (fun υ => ∀ e, e < 360 → mA υ 0 0 30 e = 0) := by
  intro m
  induction m with
  | zero => intro d τ h; omega
  | succ m ih =>
    intro d τ hm hd hq
    change Ok (B_J7_fill_53178_lk_5 (F_J7_fill_53178_lk_5 m) _ _ _ _) _
    unfold B_J7_fill_53178_lk_5
    by_cases hc : 360 ≤ d
    · have e : d = 360 := by omega
      subst e
      exact Ok_t (by decide) (Ok_r hq)
    have hck : (nI d).toNatClampNeg = d := nI_clamp (by omega)
    have i360 : inb (nI d) 360 = true := by
      have : d < 360 := by omega
      clear ih hq; grind [gI, gB, gC]
    refine Ok_f (show ¬ (360 : Int32) ≤ nI d from nI_ge (b := 360) (by omega) (by decide)) (Ok_t i360 ?_)
    unfold F_J7_fill_53178_lk_14
    rw [hck, nI_1]
    refine ih (d + 1) _ (by omega) (by omega) (fun e he => ?_)
    rw [mA_A, if_pos ⟨rfl, rfl, rfl⟩, upd_at]
    by_cases h : e = d
    · rw [if_pos h]
    · rw [if_neg h]; exact hq e (by omega)
/-- LINES of each DEGREE -/
def GTH (D : DD) (n : Nat) (ρ : Int32) (σ : Mm) : Prop := ∀ d, d < 360 → mA σ 0 0 30 d = nI (cn (fun x => (isL D n x && hRule D n x ρ) && decide (lDeg D n x = nI d)) 196)
theorem deg_nat {w : Int32} (h : rIn w 359) : ∃ d : Nat, d < 360 ∧ w = nI d := thing_nat (F := 360) (by omega) ⟨h.1, by have := h.2; have e : nI 360 = 360 := rfl; rw [e]; clear h; grind⟩
theorem gather_10 {D : DD} (hW : WF D) {n : Nat} {ρ : Int32} (hn : n ≤ dN D 1) : ∀ (m k : Nat) (σ : Mm), (Ls D n ρ 196).length - k < m → k ≤ (Ls D n ρ 196).length → GCh D n ρ 196 σ →
    (∀ d, d < 360 → mA σ 0 0 30 d = nI (cP (fun x => decide (lDeg D n x = nI d)) ((Ls D n ρ 196).take k))) → Ok (F_X10_gather_10 m (nI k) σ) (GTH D n ρ) := by
  have hlen := Ls_len (D := D) (n := n) (ρ := ρ) 196 (Nat.le_refl _)
  intro m
  induction m with
  | zero => intro k σ h; omega
  | succ m ih =>
    intro k σ hm hk hc hq
    change Ok (B_X10_gather_10 (F_X10_gather_10 m) _ _) _
    unfold B_X10_gather_10
    rw [hc.1]
    by_cases hd : (Ls D n ρ 196).length ≤ k
    · refine Ok_t (nI_le hd (by omega)) (Ok_r (fun d h => ?_))
      rw [hq d h, List.take_of_length_le hd, cP_Ls]
    have hk2 : k < (Ls D n ρ 196).length := by omega
    have hx' : (Ls D n ρ 196)[k]? = some (Ls D n ρ 196)[k] := List.getElem?_eq_getElem hk2
    generalize (Ls D n ρ 196)[k] = x at hx'
    obtain ⟨hx196, hL, -⟩ := Ls_mem hx'
    obtain ⟨w, hw, ew⟩ := deg_nat (lDeg_in hW hn hL)
    have hck : (nI k).toNatClampNeg = k := nI_clamp (by omega)
    have hcw : (nI w).toNatClampNeg = w := nI_clamp (by omega)
    have i182 : inb (nI k) 182 = true := by
      have : k < 182 := by omega
      clear ih hc hW hx' hL hq ew; grind [gI, gB, gC]
    have i360 : inb (nI w) 360 = true := by
      clear ih hc hW hx' hL hq ew; grind [gI, gB, gC]
    refine Ok_f (nI_ge (by omega) (by omega)) (Ok_t i182 ?_)
    rw [hck, (hc.2 k x hx').2, ew, hcw]
    refine Ok_t i360 (Ok_t i360 ?_)
    unfold F_X10_gather_33
    rw [nI_1]
    have f : Fr [(0, 30, 999)] σ (setA σ 0 0 30 (upd (mA σ 0 0 30) w (mA σ 0 0 30 w + 1))) := Fr.AA Fr_r rfl
    refine ih (k + 1) _ (by omega) (by omega) (hc.fr f rfl) (fun d h => ?_)
    rw [mA_A, if_pos ⟨rfl, rfl, rfl⟩, upd_at, cP_take hx', ew]
    by_cases e : d = w
    · subst e
      rw [if_pos rfl, hq d h, nI_1, decide_eq_true rfl, if_pos rfl]
    · rw [if_neg e, hq d h, decide_eq_false (fun z => e ((nI_eq (by omega) (by omega)).mp z).symm)]; rfl
theorem s_gather {D : DD} (hW : WF D) {n : Nat} {ρ : Int32} {σ : Mm} (hn : n ≤ dN D 1) (hc : GCh D n ρ 196 σ) : Ok (F_X10_gather σ) (GTH D n ρ) := by
  unfold F_X10_gather F_X10_gather_8
  have h0 : Ok (F_J7_fill_53178_lk 0 σ) (fun υ => ∀ e, e < 360 → mA υ 0 0 30 e = 0) := fill_lk (σ := σ) FU 0 σ (by show _ < 1000000; omega) (by omega) (fun e he => absurd he (by omega))
  refine Ok_V (h0.frV fr_J7_fill_53178_lk) (fun τ hτ => ?_)
  obtain ⟨hz, f⟩ := hτ
  refine gather_10 hW hn FU 0 τ (by have := Ls_len (D := D) (n := n) (ρ := ρ) 196 (Nat.le_refl _); show _ < 1000000; omega) (by omega) (hc.fr f rfl) (fun d h => ?_)
  rw [hz d h, List.take_zero]; rfl
/-- what each DEGREE hits -/
def CV (D : DD) (cw : Nat) (y : Int32) (σ : Mm) : Prop := ∀ d, d < 360 → mA σ 0 0 31 d = HB D y (nI d) (nI cw) false
theorem cover_2 {D : DD} (hW : WF D) {cw : Nat} {y : Int32} : ∀ (m d : Nat) (σ : Mm), 360 - d < m → d ≤ 360 → SW D y (dN D 4) σ → (∀ e, e < d → mA σ 0 0 31 e = HB D y (nI e) (nI cw) false) → Ok (F_X10_cover_2 m (nI cw) (nI d) σ) (CV D cw y) := by
  intro m
  induction m with
  | zero => intro d τ h; omega
  | succ m ih =>
    intro d σ hm hd hS hq
    change Ok (B_X10_cover_2 (F_X10_cover_2 m) _ _ _) _
    unfold B_X10_cover_2
    by_cases hc : 360 ≤ d
    · have e : d = 360 := by omega
      subst e
      exact Ok_t (by decide) (Ok_r hq)
    have hck : (nI d).toNatClampNeg = d := nI_clamp (by omega)
    have i360 : inb (nI d) 360 = true := by
      have : d < 360 := by omega
      clear ih hq hS hW; grind [gI, gB, gC]
    have hr : rIn (nI d) 359 := ⟨nI_pos' (by omega), nI_le (b := 359) (by omega) (by decide)⟩
    refine Ok_f (show ¬ (360 : Int32) ≤ nI d from nI_ge (b := 360) (by omega) (by decide)) ?_
    rw [s_struck hW hr hS, bnd_s]
    unfold F_X10_cover_21 F_X10_cover_22
    rw [hck, nI_1, show decide ((0 : Int32) ≠ 0) = false from by decide]
    refine Ok_t i360 ?_
    have f : Fr [(0, 31, 999)] σ (setA σ 0 0 31 (upd (mA σ 0 0 31) d (HB D y (nI d) (nI cw) false))) := Fr.AA Fr_r rfl
    refine ih (d + 1) _ (by omega) (by omega) (hS.fr f rfl) (fun e he => ?_)
    rw [mA_A, if_pos ⟨rfl, rfl, rfl⟩, upd_at]
    by_cases h : e = d
    · rw [if_pos h, h]
    · rw [if_neg h]; exact hq e (by omega)
theorem s_cover {D : DD} (hW : WF D) {cw : Nat} {y : Int32} {σ : Mm} (hS : SW D y (dN D 4) σ) : Ok (F_X10_cover (nI cw) σ) (CV D cw y) :=
  cover_2 hW FU 0 σ (by show _ < 1000000; omega) (by omega) hS (fun e he => absurd he (by omega))
