/-! story -/
theorem hRule_r {D : DD} {n l r : Nat} (hr : r < 1000) : hRule D n l (nI r) = conV (tr D n l) (dR D r) := by
  unfold hRule
  rw [if_neg (neg1_ne hr), nI_clamp (by omega)]
/-- the rows of a LINE, its choice aside -/
def L3 (D : DD) (n x : Nat) (σ : Mm) : Prop := mA σ 3 0 52 x = (if isL D n x then 1 else 0) ∧ (isL D n x = true → mA σ 3 0 53 x = lDeg D n x ∧ mA σ 3 0 54 x = lFar D n x)
theorem L3.fr {D : DD} {n x : Nat} {W : List (Nat × Nat × Nat)} {σ τ : Mm} (h : L3 D n x σ) (hf : Fr W σ τ) (hw : (noW W 3 52 && (noW W 3 53 && noW W 3 54)) = true) : L3 D n x τ := by
  simp only [Bool.and_eq_true] at hw
  unfold L3
  rw [hf.row (t := 3) (k := 52) 0 hw.1, hf.row (t := 3) (k := 53) 0 hw.2.1, hf.row (t := 3) (k := 54) 0 hw.2.2]
  exact h
/-- what a story tells -/
def stV (D : DD) (n : Nat) (ρ y set w : Int32) : Int32 := if w = 0 then nI (cn (fun x => isL D n x && hRule D n x ρ) 196) else if w = 1 then nI (hN D n ρ y set 0 false) else nI (cn (mq D n ρ y set) 360)
theorem story_130 {D : DD} (hW : WF D) {n : Nat} {ρ y set w : Int32} {σ : Mm} (hn : n ≤ dN D 1) (hM : RM σ 0 D) (hS : LSk D y (dN D 4) σ) (hY : MY D n ρ σ) : F_X12_story_130 set w (nI (cn (fun x => isL D n x && hRule D n x ρ) 196)) σ = some (stV D n ρ y set w, σ) := by
  unfold F_X12_story_130 F_X12_story_153 F_X12_story_161 stV
  by_cases c0 : w = 0
  · rw [if_pos c0, if_pos c0]
  rw [if_neg c0, if_neg c0]
  by_cases c1 : w = 1
  · have e1 : F_X12_hitsOf set 0 0 σ = some (nI (hN D n ρ y set 0 false), σ) := s_hitsOf (t := 0) (s := 0) hW hn ⟨by decide, by decide⟩ hM hS hY
    rw [if_pos c1, if_pos c1, e1, bnd_s]
  · rw [if_neg c1, if_neg c1, s_asMany hW hn hM hS hY, bnd_s]
theorem story_49 {D : DD} (hW : WF D) {n r : Nat} {y set w : Int32} (hn : n ≤ dN D 1) (hr : r < dN D 5) : ∀ (m l : Nat) (σ : Mm), 196 - l < m → l ≤ 196 → RM σ 0 D → LK D n (nT D) σ → (∀ x, x < 196 → L3 D n x σ) → (∀ x, x < l → mA σ 3 0 55 x = if isL D n x && hRule D n x (nI r) then 1 else 0) → (∀ x, l ≤ x → x < 196 → isL D n x = false → mA σ 3 0 55 x = 0) →
    Ok (F_X12_story_49 m (nI r) set y w (nI (cn (fun x => isL D n x && hRule D n x (nI r)) l)) (nI l) σ) (fun q => q.1 = stV D n (nI r) y set w) := by
  have h6 := hW.2.2.2.2.2.1
  intro m
  induction m with
  | zero => intro l σ h; omega
  | succ m ih =>
    intro l σ hm hl hM hK h3 h55 h0
    change Ok (B_X12_story_49 (F_X12_story_49 m) _ _ _ _ _ _ _) _
    unfold B_X12_story_49 F_X12_story_119
    by_cases hd : 196 ≤ l
    · have e : l = 196 := by omega
      subst e
      have hY : MY D n (nI r) σ := fun x hx => ⟨(h3 x hx).1, h55 x hx, fun z => ((h3 x hx).2 z).1⟩
      refine Ok_t (by decide) (Ok_V ((s_laySky hW hM).frV fr_X12_laySky) (fun τ hτ => ?_))
      obtain ⟨hS, f⟩ := hτ
      exact ⟨_, story_130 hW hn (hM.fr (f.sub rfl)) hS (hY.fr f rfl), rfl⟩
    have hl2 : l < 196 := by omega
    obtain ⟨-, -, -, -, -, -, d7, d8, -, -⟩ := nI14 hl2
    obtain ⟨y1, y3⟩ := h3 l hl2
    have e : cn (fun x => isL D n x && hRule D n x (nI r)) (l + 1) = cn (fun x => isL D n x && hRule D n x (nI r)) l + (if (isL D n l && hRule D n l (nI r)) = true then 1 else 0) := rfl
    refine Ok_f (show ¬ (196 : Int32) ≤ nI l from nI_ge (b := 196) (by omega) (by decide)) (Ok_t d8 ?_)
    rw [d7, y1, nI_1]
    cases hL : isL D n l with
    | false =>
      rw [hL, Bool.false_and] at e
      refine Ok_t (by decide) ?_
      have := ih (l + 1) σ (by omega) (by omega) hM hK h3 (fun x hx => by
        by_cases ex : x = l
        · subst ex; rw [h0 x (Nat.le_refl _) hl2 hL, hL]; rfl
        · exact h55 x (by omega)) (fun x hx => h0 x (by omega))
      rw [e] at this
      exact this
    | true =>
      rw [hL, Bool.true_and] at e
      obtain ⟨h53, h54⟩ := y3 hL
      refine Ok_f (by decide) (Ok_V ((s_look hW hl2 hL hM hK h53 h54).frV fr_X12_look) (fun τ hτ => ?_))
      obtain ⟨h56, f⟩ := hτ
      have hM1 : RM τ 0 D := hM.fr (f.sub rfl)
      have hcr : (nI r).toNatClampNeg = r := nI_clamp (by omega)
      have i30 : inb (nI r) 30 = true := by
        have : r < 6 := by omega
        clear ih hM hK h3 h55 h0 hW hL e hM1 h56 f; grind [gI, gB, gC]
      unfold F_X12_story_76
      rw [hcr]
      refine Ok_t i30 (Ok_t i30 (Ok_B ((s_isHeld hW hM1 hr).frI fr_X12_isHeld) (fun v υ hv => ?_)))
      obtain ⟨hv, f2⟩ := hv
      have hv : v = if conV (mA τ 3 0 56) (dR D r) = true then 1 else 0 := hv
      have f2 : Fr W_X12_isHeld τ υ := f2
      rw [conV_cong h56 (hW.2.2.2.2.2.2.2.2.2.2 r hr), ← hRule_r (by omega)] at hv
      unfold F_X12_story_98 F_X12_story_99 F_X12_story_116 F_X12_story_119
      refine Ok_t d8 (Ok_t d8 ?_)
      rw [hv, nar01, d7, nI_1]
      have f3 : Fr [(3, 55, 999)] υ (setA υ 3 0 55 (upd (mA υ 3 0 55) l (if hRule D n l (nI r) = true then 1 else 0))) := Fr.AA Fr_r rfl
      have e55 : ∀ x, mA (setA υ 3 0 55 (upd (mA υ 3 0 55) l (if hRule D n l (nI r) = true then 1 else 0))) 3 0 55 x = if x = l then (if hRule D n l (nI r) = true then 1 else 0) else mA σ 3 0 55 x := by
        intro x
        rw [mA_A, if_pos ⟨rfl, rfl, rfl⟩, upd_at, f2.row (t := 3) (k := 55) 0 rfl, f.row (t := 3) (k := 55) 0 rfl]
      generalize setA υ 3 0 55 (upd (mA υ 3 0 55) l (if hRule D n l (nI r) = true then 1 else 0)) = φ at *
      have := ih (l + 1) φ (by omega) (by omega) ((hM1.fr (f2.sub rfl)).fr (f3.sub rfl)) (((hK.fr f rfl).fr f2 rfl).fr f3 rfl) (fun x hx => (((h3 x hx).fr f rfl).fr f2 rfl).fr f3 rfl) (fun x hx => by
        rw [e55]
        by_cases ex : x = l
        · subst ex; rw [if_pos rfl, hL, Bool.true_and]
        · rw [if_neg ex]; exact h55 x (by omega)) (fun x hx hx2 hx3 => by
        rw [e55, if_neg (by omega)]; exact h0 x (by omega) hx2 hx3)
      rw [e] at this
      rw [e55, if_pos rfl]
      cases hh : hRule D n l (nI r) with
      | false => rw [hh] at this; exact Ok_t (by decide) (by rw [show nI (cn (fun x => isL D n x && hRule D n x (nI r)) l) + 0 = nI (cn (fun x => isL D n x && hRule D n x (nI r)) l) from by grind]; exact this)
      | true => rw [hh] at this; rw [nI_1]; exact Ok_f (by decide) this
