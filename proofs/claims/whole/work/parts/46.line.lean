/-! line and lines -/
def cn (p : Nat → Bool) : Nat → Nat
  | 0 => 0
  | l + 1 => cn p l + (if p l then 1 else 0)
theorem cn_le (p : Nat → Bool) : ∀ l, cn p l ≤ l := by
  intro l
  induction l with
  | zero => exact Nat.le_refl _
  | succ l ih =>
    show cn p l + (if p l then 1 else 0) ≤ l + 1
    split <;> omega
theorem cn_cong {p q : Nat → Bool} : ∀ l, (∀ x, x < l → p x = q x) → cn p l = cn q l := by
  intro l
  induction l with
  | zero => intro _; rfl
  | succ l ih =>
    intro h
    show cn p l + _ = cn q l + _
    rw [ih (fun x hx => h x (by omega)), h l (by omega)]
theorem Ls_cn {D : DD} {n : Nat} {ρ : Int32} : ∀ l, (Ls D n ρ l).length = cn (fun x => isL D n x && hRule D n x ρ) l := by
  intro l
  induction l with
  | zero => rfl
  | succ l ih =>
    rw [Ls_s, List.length_append, ih]
    show _ = cn _ l + (if (isL D n l && hRule D n l ρ) = true then 1 else 0)
    cases (isL D n l && hRule D n l ρ) <;> rfl
theorem hRule_m1 {D : DD} {n l : Nat} : hRule D n l (-1) = (decide (dN D 5 = 0) || anR D (tr D n l) (dN D 5)) := if_pos rfl
theorem cntd_h {D : DD} {n l : Nat} : cntd D n l = (isL D n l && hRule D n l (-1)) := by rw [hRule_m1]; rfl
theorem neg1_ne {k : Nat} (hk : k < 1000) : ¬ nI k = -1 := fun z => by
  have := nI_toInt (n := k) (by omega)
  rw [z] at this
  have e : (-1 : Int32).toInt = -1 := rfl
  omega
def qLine (D : DD) (n l w : Nat) : Int32 := if isL D n l then (if w = 7 then (if cntd D n l then 1 else 0) else tr D n l (if w = 0 then 8 else w + 1)) else -1
theorem p_line {h : Nat → Bool} {σ : Mm} (hI : Iv h σ) (x w y : Int32) : ∃ (r : Int32) (σ1 : Mm) (σ2 : Mm), F_X11_line x w y σ = some (r, σ1) ∧ F_X12_line x w y σ1 = some (r, σ2) ∧ Iv h σ2 := by
  obtain ⟨D, hC, hM, hW⟩ := id hI.2.2.2.2.2
  have oP := okP_of hI.1
  have h14 := hW.1
  have h60 := hW.2.1
  by_cases hv : (0 ≤ w ∧ w ≤ 7) ∧ (0 ≤ y ∧ y ≤ nI (dN D 1))
  · obtain ⟨v1, v2⟩ := hv
    obtain ⟨n, hn, rfl⟩ := known_nat (by omega) v2
    obtain ⟨k, hk, rfl⟩ : ∃ k : Nat, k ≤ 7 ∧ w = nI k := known_nat (F := 7) (by omega) v1
    have p7 : (7 : Int32) = nI 7 := rfl
    have k7 : nI k = 7 ↔ k = 7 := nI_eq (b := 7) (by omega) (by decide)
    have k0 : nI k = 0 ↔ k = 0 := nI_eq (b := 0) (by omega) (by decide)
    by_cases hx : 0 ≤ x ∧ x < 196
    · obtain ⟨l, hl, rfl⟩ : ∃ l : Nat, l < 196 ∧ x = nI l := thing_nat (F := 196) (by omega) hx
      obtain ⟨-, -, -, -, -, -, d7, d8, -, -⟩ := nI14 hl
      refine q_call hI fr_X11_line rfl (qLine D n l k) ?_ (fun _ => fr_X12_line) rfl (fun σ1 f1 => ?_)
      · unfold F_X11_line
        rw [if_pos oP, isKnownC (s := 0) hC.2.2.2.2.2.2.2, if_pos v2, if_neg ne10, if_neg (nI_pos (by omega)), if_pos v1.2]
        refine Ok_V ((s_know hW hn hC).frV fr_X2_know) (fun τ g => ?_)
        obtain ⟨hG, fr⟩ := g
        have hC1 : RC τ (mP σ 0) 0 D := hC.fr (fr.sub rfl)
        have hp : mP τ 0 = mP σ 0 := fr.p rfl
        have oP1 : okP τ = true := by
          have : ∀ j, mP τ j = mP σ j := fun j => fr.p (by rfl)
          unfold okP at oP ⊢
          rw [this, this, this]; exact oP
        unfold F_X11_line_36
        rw [s_joins hW hl hG, bnd_s]
        unfold F_X11_line_44 F_X11_line_68 qLine
        rw [hp]
        cases hL : isL D n l with
        | false => exact Ok_t rfl (Ok_r rfl)
        | true =>
          refine Ok_f (by decide) ?_
          by_cases c7 : k = 7
          · refine Ok_t (k7.mpr c7) (Ok_t oP1 (Ok_B (s_holds hW (Or.inl rfl) hn hl hC1 hG hL) (fun v υ hv => ?_)))
            have hv : v = if hRule D n l (-1) = true then 1 else 0 := hv
            rw [hv]
            have e : cntd D n l = hRule D n l (-1) := by rw [cntd_h, hL, Bool.true_and]
            rw [if_pos rfl, if_pos c7, e]
            cases hRule D n l (-1)
            · exact Ok_t rfl (Ok_r rfl)
            · exact Ok_f (by decide) (Ok_r rfl)
          · refine Ok_f (fun z => c7 (k7.mp z)) (Ok_t oP1 (Ok_V (s_describe hW hn hl hG hC1.2.2.1 hL) (fun υ hυ => ?_)))
            rw [if_pos rfl, if_neg c7]
            unfold F_X11_line_89
            by_cases c0 : k = 0
            · refine Ok_t (k0.mpr c0) (Ok_t (by decide) (Ok_r ?_))
              rw [if_pos c0]
              exact hυ 8 (by omega)
            · have e : (2 : Int32) + nI k - 1 = nI (k + 1) := by
                rw [show (2 : Int32) + nI k = nI (2 + k) from nI_add 2 k, show 2 + k = k + 1 + 1 by omega]
                exact nI_pred (k + 1)
              have i9 : inb (nI (k + 1)) 9 = true := by
                clear hI hC hM hW hG fr hC1 hυ v1 v2 hx k7 k0; grind [gI, gB, gC]
              refine Ok_f (fun z => c0 (k0.mp z)) ?_
              rw [e]
              refine Ok_t i9 (Ok_r ?_)
              rw [nI_clamp (by omega), if_neg c0]
              exact hυ (k + 1) (by omega)
      · have hM1 : RM σ1 0 D := hM.fr (f1.sub rfl)
        unfold F_X12_line F_X12_line_26
        simp only [isInM, ite10]
        have hx2 : 0 ≤ nI l ∧ nI l ≤ 195 := ⟨hx.1, nI_le (b := 195) (by omega) (by decide)⟩
        rw [if_neg (not_not_intro hx2), if_neg (not_not_intro v1), isKnownM hM1, bnd_s, if_pos v2, if_neg ne10]
        refine Ok_V ((s_lay hW hn hM1).frV fr_X12_lay) (fun τ g => ?_)
        obtain ⟨⟨hK, hY⟩, fr⟩ := g
        obtain ⟨y1, y2, y3⟩ := hY l hl
        unfold F_X12_line_36 F_X12_line_82 F_X12_line_85 qLine
        refine Ok_t d8 ?_
        rw [d7, y1, y2]
        cases hL : isL D n l with
        | false => exact Ok_t rfl (Ok_r rfl)
        | true =>
          obtain ⟨y4, y5⟩ := y3 hL
          have hM2 : RM τ 0 D := hM1.fr (fr.sub rfl)
          refine Ok_f (by decide) ?_
          rw [if_pos rfl]
          by_cases c7 : k = 7
          · refine Ok_t (k7.mpr c7) (Ok_t d8 ?_)
            rw [if_pos c7]
            cases cntd D n l
            · exact Ok_t rfl (Ok_r rfl)
            · exact Ok_f (by decide) (Ok_r rfl)
          · refine Ok_f (fun z => c7 (k7.mp z)) ?_
            rw [if_neg c7]
            by_cases c0 : k = 0
            · refine Ok_t (k0.mpr c0) ?_
              rw [show (8 : Int32) = nI 8 from rfl, s_lineOf hW hl (by omega) hM2 hK hL y4 y5, bnd_s, if_pos c0]
              exact Ok_r rfl
            · refine Ok_f (fun z => c0 (k0.mp z)) ?_
              rw [nI_1, s_lineOf hW hl (by omega) hM2 hK hL y4 y5, bnd_s, if_neg c0]
              exact Ok_r rfl
    · refine q_call hI fr_X11_line rfl (-1) ?_ (fun _ => fr_X12_line) rfl (fun σ1 f1 => ?_)
      · unfold F_X11_line
        rw [if_pos oP, isKnownC (s := 0) hC.2.2.2.2.2.2.2, if_pos v2, if_neg ne10, if_neg (nI_pos (by omega)), if_pos v1.2]
        refine Ok_V (s_know hW hn hC) (fun τ g => ?_)
        unfold F_X11_line_36
        rw [s_joinsN hx, bnd_s]
        unfold F_X11_line_44
        exact Ok_t rfl (Ok_r rfl)
      · unfold F_X12_line
        simp only [isInM, ite10]
        rw [if_pos (fun z => hx ⟨z.1, by have := z.2; clear hI hC hM hW f1 v1 v2 hx z; grind⟩)]
        exact Ok_r rfl
  · have hM1 := hM
    refine ⟨-1, σ, σ, ?_, ?_, hI⟩
    · unfold F_X11_line
      rw [if_pos oP, isKnownC (s := 0) hC.2.2.2.2.2.2.2]
      by_cases v2 : 0 ≤ y ∧ y ≤ nI (dN D 1)
      · rw [if_pos v2, if_neg ne10]
        by_cases w0 : w < 0
        · rw [if_pos w0]
        · rw [if_neg w0, if_neg (fun z => hv ⟨⟨by clear hI hC hM hW hM1 v2; grind, z⟩, v2⟩)]
      · rw [if_neg v2, if_pos rfl]
    · unfold F_X12_line F_X12_line_26
      simp only [isInM, ite10]
      by_cases c : 0 ≤ x ∧ x ≤ 195
      · rw [if_neg (not_not_intro c)]
        by_cases v1 : 0 ≤ w ∧ w ≤ 7
        · rw [if_neg (not_not_intro v1), isKnownM hM, bnd_s, if_neg (fun z => hv ⟨v1, z⟩), if_pos rfl]
        · rw [if_pos v1]
      · rw [if_pos c]
theorem joined_4 {D : DD} (hW : WF D) {n : Nat} {σ : Mm} (hG : GK D n σ) : ∀ (m l : Nat), 196 - l < m → l ≤ 196 → F_X2_joinedInAll_4 m (nI (cn (isL D n) l)) (nI l) σ = some (nI (cn (isL D n) 196), σ) := by
  intro m
  induction m with
  | zero => intro l h; omega
  | succ m ih =>
    intro l hm hl
    change B_X2_joinedInAll_4 (F_X2_joinedInAll_4 m) _ _ _ = _
    unfold B_X2_joinedInAll_4
    by_cases hd : 196 ≤ l
    · have e : l = 196 := by omega
      subst e
      rw [if_pos (by decide)]
    rw [if_neg (show ¬ (196 : Int32) ≤ nI l from nI_ge (b := 196) (by omega) (by decide)), s_joins hW (by omega) hG, bnd_s]
    unfold F_X2_joinedInAll_16 F_X2_joinedInAll_22
    have i1 := ih (l + 1) (by omega) (by omega)
    have e : cn (isL D n) (l + 1) = cn (isL D n) l + (if isL D n l then 1 else 0) := rfl
    rw [nI_1, nI_1]
    cases hL : isL D n l with
    | false =>
      rw [e, hL] at i1
      rw [if_pos (by decide)]; exact i1
    | true =>
      rw [e, hL] at i1
      rw [if_neg (by decide)]; exact i1
theorem lines_20 {D : DD} {n : Nat} {b : Int32} {σ : Mm} (hY : ∀ x, x < 196 → LYr D n x σ) : ∀ (m l : Nat), 196 - l < m → l ≤ 196 → F_X12_lines_20 m b (nI (cn (if b = 0 then isL D n else cntd D n) l)) (nI l) σ = some (nI (cn (if b = 0 then isL D n else cntd D n) 196), σ) := by
  intro m
  induction m with
  | zero => intro l h; omega
  | succ m ih =>
    intro l hm hl
    change B_X12_lines_20 (F_X12_lines_20 m) _ _ _ _ = _
    unfold B_X12_lines_20 F_X12_lines_66
    by_cases hd : 196 ≤ l
    · have e : l = 196 := by omega
      subst e
      rw [if_pos (by decide)]
    have hl2 : l < 196 := by omega
    obtain ⟨-, -, -, -, -, -, d7, d8, -, -⟩ := nI14 hl2
    obtain ⟨y1, y2, -⟩ := hY l hl2
    rw [if_neg (show ¬ (196 : Int32) ≤ nI l from nI_ge (b := 196) (by omega) (by decide)), d7, y1, y2]
    have i1 := ih (l + 1) (by omega) (by omega)
    have e : ∀ p, cn p (l + 1) = cn p l + (if p l then 1 else 0) := fun _ => rfl
    rw [e] at i1
    simp only [d8, if_true, nI_1, show ∀ z : Int32, z + 0 = z from Int32.add_zero]
    by_cases c : b = 0
    · simp only [if_pos c] at i1 ⊢
      cases hL : isL D n l with
      | false => rw [hL] at i1; rw [if_pos (by decide)]; exact i1
      | true => rw [hL] at i1; rw [if_pos rfl, if_neg (by decide)]; exact i1
    · simp only [if_neg c] at i1 ⊢
      cases hL : cntd D n l with
      | false => rw [hL] at i1; rw [if_pos (by decide)]; exact i1
      | true => rw [hL] at i1; rw [if_pos rfl, if_neg (by decide)]; exact i1
theorem p_lines {h : Nat → Bool} {σ : Mm} (hI : Iv h σ) (b y : Int32) : ∃ (r : Int32) (σ1 : Mm) (σ2 : Mm), F_X11_lines b y σ = some (r, σ1) ∧ F_X12_lines b y σ1 = some (r, σ2) ∧ Iv h σ2 := by
  obtain ⟨D, hC, hM, hW⟩ := id hI.2.2.2.2.2
  have oP := okP_of hI.1
  have h14 := hW.1
  have h60 := hW.2.1
  by_cases v2 : 0 ≤ y ∧ y ≤ nI (dN D 1)
  · obtain ⟨n, hn, rfl⟩ := known_nat (by omega) v2
    refine q_call hI fr_X11_lines rfl (nI (cn (if b = 0 then isL D n else cntd D n) 196)) ?_ (fun _ => fr_X12_lines) rfl (fun σ1 f1 => ?_)
    · unfold F_X11_lines
      rw [if_pos oP, isKnownC (s := 0) hC.2.2.2.2.2.2.2, if_pos v2, if_neg ne10]
      refine Ok_V ((s_know hW hn hC).frV fr_X2_know) (fun τ g => ?_)
      obtain ⟨hG, fr⟩ := g
      have hC1 : RC τ (mP σ 0) 0 D := hC.fr (fr.sub rfl)
      have hp : mP τ 0 = mP σ 0 := fr.p rfl
      have oP1 : okP τ = true := by
        have : ∀ j, mP τ j = mP σ j := fun j => fr.p (by rfl)
        unfold okP at oP ⊢
        rw [this, this, this]; exact oP
      unfold F_X11_lines_26 F_X11_lines_37 F_X11_lines_50
      rw [hp]
      by_cases c : b = 0
      · refine Ok_t c ?_
        have e : F_X2_joinedInAll τ = some (nI (cn (isL D n) 196), τ) := joined_4 hW hG FU 0 (by decide) (by omega)
        rw [e, bnd_s, if_pos c]; exact Ok_r rfl
      · refine Ok_f c (Ok_t oP1 (Ok_V (s_choose hW (Or.inl rfl) hn hC1 hG) (fun υ hυ => Ok_r ?_)))
        show mA υ 0 0 15 8 = _
        rw [hυ.1, if_neg c, Ls_cn, cn_cong 196 (fun x _ => (cntd_h (D := D) (n := n) (l := x)).symm)]
    · have hM1 : RM σ1 0 D := hM.fr (f1.sub rfl)
      unfold F_X12_lines F_X12_lines_5 F_X12_lines_15
      rw [isKnownM hM1, bnd_s, if_pos v2, if_neg ne10]
      refine Ok_V (s_lay hW hn hM1) (fun τ g => ?_)
      have := lines_20 (b := b) g.2 FU 0 (by decide) (by omega)
      exact ⟨_, this, rfl⟩
  · refine ⟨-1, σ, σ, ?_, ?_, hI⟩
    · unfold F_X11_lines
      rw [if_pos oP, isKnownC (s := 0) hC.2.2.2.2.2.2.2, if_neg v2, if_pos rfl]
    · unfold F_X12_lines F_X12_lines_5
      rw [isKnownM hM, bnd_s, if_neg v2, if_pos rfl]
