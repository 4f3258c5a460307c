/-! the class: LINES chosen -/
theorem GK.fr {D : DD} {n : Nat} {W : List (Nat × Nat × Nat)} {σ τ : Mm} (h : GK D n σ) (hf : Fr W σ τ) (hw : (!(inW W 0 15 0) && (noW W 0 16 && (noW W 0 17 && (noW W 0 18 && (noW W 0 19 && noW W 0 20))))) = true) : GK D n τ := by
  simp only [Bool.and_eq_true, Bool.not_eq_true'] at hw
  unfold GK
  rw [hf.fld (t := 0) (k := 15) (f := 0) 0 hw.1, hf.row (t := 0) (k := 16) 0 hw.2.1, hf.row (t := 0) (k := 17) 0 hw.2.2.1, hf.row (t := 0) (k := 18) 0 hw.2.2.2.1, hf.row (t := 0) (k := 19) 0 hw.2.2.2.2.1, hf.row (t := 0) (k := 20) 0 hw.2.2.2.2.2]
  exact h
theorem bit_ne (c : Bool) : ((if c = true then (1 : Int32) else 0) = 0) ↔ c = false := by cases c <;> decide
/-- whether a LINE is chosen: by the RULES all, or by one -/
def hRule (D : DD) (n l : Nat) (ρ : Int32) : Bool := if ρ = -1 then (decide (dN D 5 = 0) || anR D (tr D n l) (dN D 5)) else conV (tr D n l) (dR D ρ.toNatClampNeg)
theorem anR_mono {D : DD} {v : Nat → Int32} {a b : Nat} (h : a ≤ b) (ha : anR D v a = true) : anR D v b = true := by
  induction b with
  | zero => have : a = 0 := by omega
            subst this; exact ha
  | succ b ih =>
    by_cases e : a = b + 1
    · subst e; exact ha
    · show (anR D v b || _) = true
      rw [ih (by omega)]; rfl
theorem holds_23 {D : DD} (hW : WF D) {n l i : Nat} {ρ : Int32} (hρ : ρ = -1 ∨ ∃ r : Nat, r < dN D 5 ∧ ρ = nI r) : ∀ (m r : Nat) (σ : Mm), dN D 5 - r < m → r ≤ dN D 5 → RC σ i 0 D → (∀ j, j < 9 → mA σ 0 0 22 j = tr D n l j) → (ρ = -1 → anR D (tr D n l) r = false) → (∀ q : Nat, ρ = nI q → r ≤ q ∨ conV (tr D n l) (dR D q) = false) →
    Ok (F_X2_holds_23 m i ρ (nI r) σ) (fun w => w.1 = if (if ρ = -1 then anR D (tr D n l) (dN D 5) else conV (tr D n l) (dR D ρ.toNatClampNeg)) = true then 1 else 0) := by
  have h6 := hW.2.2.2.2.2.1
  have hneg : ∀ r : Nat, r < 100 → ¬ nI r = -1 := fun r hr z => by
    have := nI_toInt (n := r) (by omega)
    rw [z] at this
    have e : (-1 : Int32).toInt = -1 := rfl
    omega
  intro m
  induction m with
  | zero => intro r σ h; omega
  | succ m ih =>
    intro r σ hm hr hC h22 h1 h2
    change Ok (B_X2_holds_23 (F_X2_holds_23 m) _ _ _ _) _
    unfold B_X2_holds_23 F_X2_holds_63 F_X2_holds_43 F_X2_holds_58 F_X2_holds_63
    rw [hC.1.2.2.2.2.2, nI_1]
    by_cases hd : dN D 5 ≤ r
    · have e : r = dN D 5 := by omega
      refine Ok_t (nI_le hd (by omega)) (Ok_r ?_)
      by_cases c : ρ = -1
      · rw [if_pos c, ← e, h1 c]; rfl
      · rw [if_neg c]
        obtain ⟨q, hq, hρ2⟩ := hρ.resolve_left c
        rcases h2 q hρ2 with z | z
        · omega
        · rw [hρ2, nI_clamp (by omega), z]; rfl
    have hr2 : r < dN D 5 := by omega
    refine Ok_f (nI_ge (by omega) (by omega)) ?_
    have e5 : (5 : Int32) + nI r = nI (5 + r) := nI_add 5 r
    have go : (ρ = -1 ∨ ρ = nI r) → Ok (bnd (F_X0_work_g i (5 + nI r) σ) fun v τ => if v = 0 then F_X2_holds_23 m i ρ (nI (r + 1)) τ else some (1, τ)) (fun w => w.1 = if (if ρ = -1 then anR D (tr D n l) (dN D 5) else conV (tr D n l) (dR D ρ.toNatClampNeg)) = true then 1 else 0) := by
      intro hc
      rw [e5]
      refine Ok_B ((s_workC hW hC.2.2.2.2.2.2.1 hr2).frI fr_X0_work_g) (fun v τ hv => ?_)
      obtain ⟨hv, fr⟩ := hv
      have hv : v = if conV (mA σ 0 0 22) (dR D r) = true then 1 else 0 := hv
      have fr : Fr W_X0_work_g σ τ := fr
      rw [conV_cong h22 (hW.2.2.2.2.2.2.2.2.2.2 r hr2)] at hv
      rw [hv]
      cases hcv : conV (tr D n l) (dR D r) with
      | true =>
        refine Ok_f (by decide) (Ok_r ?_)
        by_cases c : ρ = -1
        · rw [if_pos c, anR_mono (a := r + 1) hr2 (by show (anR D (tr D n l) r || conV _ _) = true; rw [hcv, Bool.or_true])]; rfl
        · have c2 := hc.resolve_left c
          rw [if_neg c, c2, nI_clamp (by omega), hcv]; rfl
      | false =>
        refine Ok_t rfl (ih (r + 1) τ (by omega) (by omega) (hC.fr (fr.sub rfl)) (fun j hj => ?_) (fun c => ?_) (fun q hq => ?_))
        · rw [fr.row (t := 0) (k := 22) 0 rfl]; exact h22 j hj
        · show (anR D (tr D n l) r || conV _ _) = false
          rw [h1 c, hcv]; rfl
        · rcases h2 q hq with z | z
          · by_cases e : q = r
            · subst e; exact Or.inr hcv
            · exact Or.inl (by omega)
          · exact Or.inr z
    by_cases c : ρ = -1
    · exact Ok_t c (go (Or.inl c))
    refine Ok_f c ?_
    by_cases c2 : ρ = nI r
    · exact Ok_t c2 (go (Or.inr c2))
    refine Ok_f c2 (ih (r + 1) σ (by omega) (by omega) hC h22 (fun z => absurd z c) (fun q hq => ?_))
    rcases h2 q hq with z | z
    · by_cases e : q = r
      · subst e; exact absurd hq c2
      · exact Or.inl (by omega)
    · exact Or.inr z
/-- the class: whether a LINE holds -/
theorem s_holds {D : DD} (hW : WF D) {n l i : Nat} {ρ : Int32} {σ : Mm} (hρ : ρ = -1 ∨ ∃ r : Nat, r < dN D 5 ∧ ρ = nI r) (hn : n ≤ dN D 1) (hl : l < 196) (hC : RC σ i 0 D) (hG : GK D n σ) (hL : isL D n l = true) : Ok (F_X2_holds i (nI l) ρ σ) (fun w => w.1 = if hRule D n l ρ = true then 1 else 0) := by
  have go : (¬ (ρ = -1 ∧ dN D 5 = 0)) → Ok (F_X2_holds_14 i (nI l) ρ σ) (fun w => w.1 = if hRule D n l ρ = true then 1 else 0) := by
    intro hne
    unfold F_X2_holds_14 F_X2_holds_20
    refine Ok_V ((s_describe hW hn hl hG hC.2.2.1 hL).frV fr_X2_describe) (fun τ hτ => ?_)
    obtain ⟨h22, fr⟩ := hτ
    refine (holds_23 hW (n := n) (l := l) hρ FU 0 τ (by have := hW.2.2.2.2.2.1; show _ < 1000000; omega) (by omega) (hC.fr (fr.sub rfl)) h22 (fun _ => rfl) (fun q _ => Or.inl (by omega))).mono fun w hw => ?_
    rw [hw]
    unfold hRule
    by_cases c : ρ = -1
    · rw [if_pos c, if_pos c, decide_eq_false (fun z => hne ⟨c, z⟩), Bool.false_or]
    · rw [if_neg c, if_neg c]
  unfold F_X2_holds
  by_cases c : ρ = -1
  · refine Ok_t c ?_
    rw [hC.1.2.2.2.2.2]
    by_cases z : dN D 5 = 0
    · rw [z]
      refine Ok_t rfl (Ok_r ?_)
      unfold hRule
      rw [if_pos c, decide_eq_true z]; rfl
    · exact Ok_f (nI_ne0 (by omega) (by have := hW.2.2.2.2.2.1; omega)) (go (fun w => z w.2))
  · exact Ok_f c (go (fun w => c w.1))
/-- the LINES chosen, up to l -/
def Ls (D : DD) (n : Nat) (ρ : Int32) (l : Nat) : List Nat := (List.range l).filter (fun x => isL D n x && hRule D n x ρ)
theorem Ls_s {D : DD} {n : Nat} {ρ : Int32} {l : Nat} : Ls D n ρ (l + 1) = Ls D n ρ l ++ (if isL D n l && hRule D n l ρ then [l] else []) := by
  unfold Ls
  rw [List.range_succ, List.filter_append]
  congr 1
  cases h : (isL D n l && hRule D n l ρ) <;> simp [List.filter_cons, h]
theorem Ls_len {D : DD} {n : Nat} {ρ : Int32} : ∀ l, l ≤ 196 → (Ls D n ρ l).length + (l + 14) / 15 ≤ l := by
  intro l
  induction l with
  | zero => intro _; exact Nat.le_refl _
  | succ l ih =>
    intro h
    have i1 := ih (by omega)
    rw [Ls_s, List.length_append]
    by_cases c : (isL D n l && hRule D n l ρ) = true
    · rw [if_pos c]
      simp only [Bool.and_eq_true] at c
      have hne := (isL_sp c.1).1
      have : l % 15 ≠ 0 := by omega
      simp only [List.length_singleton]
      omega
    · rw [if_neg c]
      simp only [List.length_nil]
      omega
def GCh (D : DD) (n : Nat) (ρ : Int32) (l : Nat) (σ : Mm) : Prop := mA σ 0 0 15 8 = nI (Ls D n ρ l).length ∧ ∀ k x, (Ls D n ρ l)[k]? = some x → mA σ 0 0 23 k = nI x ∧ mA σ 0 0 24 k = lDeg D n x
theorem choose_7 {D : DD} (hW : WF D) {n i : Nat} {ρ : Int32} (hρ : ρ = -1 ∨ ∃ r : Nat, r < dN D 5 ∧ ρ = nI r) (hn : n ≤ dN D 1) : ∀ (m l : Nat) (σ : Mm), 196 - l < m → l ≤ 196 → RC σ i 0 D → GK D n σ → GCh D n ρ l σ → Ok (F_X2_choose_7 m i ρ (nI l) σ) (GCh D n ρ 196) := by
  intro m
  induction m with
  | zero => intro l σ h; omega
  | succ m ih =>
    intro l σ hm hl hC hG hc
    change Ok (B_X2_choose_7 (F_X2_choose_7 m) _ _ _ _) _
    unfold B_X2_choose_7
    by_cases hd : 196 ≤ l
    · have e : l = 196 := by omega
      subst e
      exact Ok_t (by decide) (Ok_r hc)
    have hl2 : l < 196 := by omega
    have hlen := Ls_len (D := D) (n := n) (ρ := ρ) l hl
    refine Ok_f (show ¬ (196 : Int32) ≤ nI l from nI_ge (b := 196) (by omega) (by decide)) ?_
    rw [hc.1]
    by_cases h182 : 182 ≤ (Ls D n ρ l).length
    · have e : l = 195 := by omega
      refine Ok_t (nI_le (a := 182) h182 (by omega)) (Ok_r ?_)
      have : Ls D n ρ 196 = Ls D n ρ l := by
        rw [e, Ls_s (l := 195)]
        have : isL D n 195 = false := decide_eq_false (fun z => z.1 rfl)
        rw [this]; simp
      unfold GCh; rw [this]; exact hc
    refine Ok_f (show ¬ (182 : Int32) ≤ nI (Ls D n ρ l).length from nI_ge (b := 182) (by omega) (by decide)) ?_
    rw [s_joins hW hl2 hG, bnd_s]
    unfold F_X2_choose_29 F_X2_choose_76
    rw [nI_1]
    have skip : ∀ τ, (isL D n l && hRule D n l ρ) = false → RC τ i 0 D → GK D n τ → GCh D n ρ l τ → Ok (F_X2_choose_7 m i ρ (nI (l + 1)) τ) (GCh D n ρ 196) := by
      intro τ hf hCτ hGτ hcτ
      refine ih (l + 1) τ (by omega) (by omega) hCτ hGτ ?_
      unfold GCh; rw [Ls_s, hf]; simp only [Bool.false_eq_true, if_false, List.append_nil]; exact hcτ
    cases hL : isL D n l with
    | false => exact Ok_t rfl (skip σ (by rw [hL]; rfl) hC hG hc)
    | true =>
      refine Ok_f (by decide) (Ok_B ((s_holds hW hρ hn hl2 hC hG hL).frI fr_X2_holds) (fun v τ hv => ?_))
      obtain ⟨hv, fr⟩ := hv
      have hv : v = if hRule D n l ρ = true then 1 else 0 := hv
      have fr : Fr W_X2_holds σ τ := fr
      have hC1 : RC τ i 0 D := hC.fr (fr.sub rfl)
      have hG1 : GK D n τ := hG.fr fr rfl
      have hc1 : GCh D n ρ l τ := by
        unfold GCh
        rw [fr.fld (t := 0) (k := 15) (f := 8) 0 rfl, fr.row (t := 0) (k := 23) 0 rfl, fr.row (t := 0) (k := 24) 0 rfl]
        exact hc
      unfold F_X2_choose_39 F_X2_choose_76
      rw [hv, nI_1]
      cases hh : hRule D n l ρ with
      | false => exact Ok_t rfl (skip τ (by rw [hL, hh]; rfl) hC1 hG1 hc1)
      | true =>
        have hcl : (nI (Ls D n ρ l).length).toNatClampNeg = (Ls D n ρ l).length := nI_clamp (by omega)
        have i182 : inb (nI (Ls D n ρ l).length) 182 = true := by
          have : (Ls D n ρ l).length < 182 := by omega
          generalize (Ls D n ρ l).length = z at *
          clear ih hC hG hc skip hC1 hG1 hc1 hW; grind [gI, gB, gC]
        refine Ok_f (by decide) ?_
        rw [hc1.1]
        refine Ok_t i182 ?_
        rw [hcl]
        unfold F_X2_choose_52
        have f2 : Fr [(0, 23, 999)] τ (setA τ 0 0 23 (upd (mA τ 0 0 23) (Ls D n ρ l).length (nI l))) := Fr.AA Fr_r rfl
        rw [s_bearingOf hW hn hl2 (hG1.fr f2 rfl) hL, bnd_s]
        unfold F_X2_choose_65
        have e8 : mA (setA τ 0 0 23 (upd (mA τ 0 0 23) (Ls D n ρ l).length (nI l))) 0 0 15 8 = nI (Ls D n ρ l).length := by simp only [mA_A, mL_A, mP_A, mA_L, mL_L, mP_L, upd_at]; simp; exact hc1.1
        rw [e8]
        refine Ok_t i182 ?_
        rw [hcl]
        unfold F_X2_choose_66 F_X2_choose_76
        rw [nI_1]
        refine ih (l + 1) _ (by omega) (by omega) ?_ ?_ ?_
        · exact hC1.fr (Fr.A (Fr.AA (Fr.AA Fr_r rfl) rfl) rfl)
        · exact hG1.fr (W := [(0, 15, 8), (0, 23, 999), (0, 24, 999)]) (Fr.A (Fr.AA (Fr.AA Fr_r rfl) rfl) rfl) rfl
        · have hsucc : Ls D n ρ (l + 1) = Ls D n ρ l ++ [l] := by rw [Ls_s, hL, hh]; rfl
          refine ⟨?_, fun k x hk => ?_⟩
          · rw [hsucc, List.length_append]
            simp only [mA_A, mL_A, mP_A, mA_L, mL_L, mP_L, upd_at]; simp
            rw [hc1.1, nI_1]
          · rw [hsucc] at hk
            simp only [mA_A, mL_A, mP_A, mA_L, mL_L, mP_L, upd_at]
            simp
            by_cases e : k = (Ls D n ρ l).length
            · subst e
              rw [List.getElem?_append_right (by omega), Nat.sub_self] at hk
              have hx : l = x := by simpa using hk
              rw [if_pos rfl, if_pos rfl, hx]
              exact ⟨rfl, rfl⟩
            · have hlt : k < (Ls D n ρ l).length := by
                have := (List.getElem?_eq_some_iff.mp hk).1
                rw [List.length_append] at this
                simp only [List.length_singleton] at this
                omega
              rw [List.getElem?_append_left hlt] at hk
              rw [if_neg e, if_neg e]
              exact hc1.2 k x hk
/-- the class: LINES chosen -/
theorem s_choose {D : DD} (hW : WF D) {n i : Nat} {ρ : Int32} {σ : Mm} (hρ : ρ = -1 ∨ ∃ r : Nat, r < dN D 5 ∧ ρ = nI r) (hn : n ≤ dN D 1) (hC : RC σ i 0 D) (hG : GK D n σ) : Ok (F_X2_choose i ρ σ) (GCh D n ρ 196) := by
  unfold F_X2_choose F_X2_choose_5
  refine choose_7 hW hρ hn FU 0 _ (by decide) (by omega) (hC.fr (Fr.A Fr_r rfl)) (hG.fr (W := [(0, 15, 8)]) (Fr.A Fr_r rfl) rfl) ⟨?_, fun k x hk => ?_⟩
  · simp only [mA_A, mL_A, mP_A, mA_L, mL_L, mP_L, upd_at]; simp; rfl
  · cases k <;> cases hk
