/-! otherwise -/
/-- whether a LINE counts and hits -/
def hx (D : DD) (y set : Int32) (n x : Nat) : Bool := (isL D n x && hRule D n x (-1)) && str D y (lDeg D n x) set false
theorem marked_4 {q : Nat → Bool} {σ : Mm} (hq : ∀ x, x < 196 → mA σ 0 0 5 x = if q x then 1 else 0) : ∀ (m l : Nat), 196 - l < m → l ≤ 196 → F_X11_markedUpTo_4 m 195 (nI (cn q l)) (nI l) σ = some (nI (cn q 196), σ) := by
  intro m
  induction m with
  | zero => intro l h; omega
  | succ m ih =>
    intro l hm hl
    change B_X11_markedUpTo_4 (F_X11_markedUpTo_4 m) _ _ _ _ = _
    unfold B_X11_markedUpTo_4 F_X11_markedUpTo_28
    by_cases hd : 196 ≤ l
    · have e : l = 196 := by omega
      subst e
      rw [if_pos (by decide)]
    have hl2 : l < 196 := by omega
    have i1 := ih (l + 1) (by omega) (by omega)
    have e : cn q (l + 1) = cn q l + (if q l = true then 1 else 0) := rfl
    rw [e] at i1
    have hck : (nI l).toNatClampNeg = l := nI_clamp (by omega)
    have i2001 : inb (nI l) 2001 = true := by clear ih i1 hq; grind [gI, gB, gC]
    rw [if_neg (show ¬ (195 : Int32) < nI l from fun z => by have := nI_le (a := l) (b := 195) (by omega) (by decide); have w : nI 195 = 195 := rfl; rw [w] at this; clear i1 ih hq; grind), if_neg (show ¬ (2000 : Int32) < nI l from fun z => by have := nI_le (a := l) (b := 2000) (by omega) (by decide); have w : nI 2000 = 2000 := rfl; rw [w] at this; clear i1 ih hq; grind), if_pos i2001, hck, hq l hl2, nI_1, nI_1]
    cases hc : q l with
    | false => rw [hc] at i1; rw [if_pos (by decide)]; exact i1
    | true => rw [hc] at i1; rw [if_neg (by decide)]; exact i1
theorem mem_Ls {D : DD} {n x : Nat} {ρ : Int32} (h : x < 196) : decide (x ∈ Ls D n ρ 196) = (isL D n x && hRule D n x ρ) := by
  unfold Ls
  cases hc : (isL D n x && hRule D n x ρ) with
  | false => exact decide_eq_false (fun z => by rw [List.mem_filter, hc] at z; exact absurd z.2 (by decide))
  | true => exact decide_eq_true (List.mem_filter.mpr ⟨List.mem_range.mpr h, hc⟩)
theorem take_mem {A : List Nat} {k x z : Nat} (h : A[k]? = some x) : z ∈ A.take (k + 1) ↔ z ∈ A.take k ∨ z = x := by
  have : A.take (k + 1) = A.take k ++ [x] := by rw [List.take_add_one, h]; rfl
  rw [this, List.mem_append, List.mem_singleton]
theorem nar_b (c : Bool) : vp_nar .boolean (if c = true then 1 else 0) = if c = true then 1 else 0 := by cases c <;> decide
theorem CB.fr5 {D : DD} {σ τ : Mm} (h : CB D σ) (hf : Fr [(0, 5, 999)] σ τ) : CB D τ := h.fr (hf.sub rfl)
theorem other_116 {D : DD} (hW : WF D) {n a : Nat} {y set : Int32} (hn : n ≤ dN D 1) : ∀ (m k : Nat) (σ : Mm), (Ls D n (-1) 196).length - k < m → k ≤ (Ls D n (-1) 196).length → CB D σ → SW D y (dN D 4) σ → GCh D n (-1) 196 σ →
    (∀ x, x < 196 → mA σ 0 0 5 x = if (hx D y set a x && !(decide (x ∈ (Ls D n (-1) 196).take k) && str D y (lDeg D n x) set false)) = true then 1 else 0) →
    Ok (F_X11_otherwise_116 m set (nI k) σ) (fun q => q.1 = nI (cn (fun x => hx D y set a x && !hx D y set n x) 196)) := by
  have hlen := Ls_len (D := D) (n := n) (ρ := -1) 196 (Nat.le_refl _)
  intro m
  induction m with
  | zero => intro k σ h; omega
  | succ m ih =>
    intro k σ hm hk hB hS hc hq
    change Ok (B_X11_otherwise_116 (F_X11_otherwise_116 m) _ _ _) _
    unfold B_X11_otherwise_116
    rw [hc.1]
    by_cases hd : (Ls D n (-1) 196).length ≤ k
    · refine Ok_t (nI_le hd (by omega)) ?_
      rw [List.take_of_length_le hd] at hq
      have hq2 : ∀ x, x < 196 → mA σ 0 0 5 x = if (fun x => hx D y set a x && !hx D y set n x) x = true then 1 else 0 := fun x h => by
        rw [hq x h, mem_Ls h]; rfl
      have := marked_4 hq2 FU 0 (by show _ < 1000000; omega) (by omega)
      unfold F_X11_markedUpTo F_X11_otherwise_176
      have e : F_X11_markedUpTo_4 FU 195 0 0 σ = some (nI (cn (fun x => hx D y set a x && !hx D y set n x) 196), σ) := this
      rw [e, bnd_s]
      exact Ok_r rfl
    have hk2 : k < (Ls D n (-1) 196).length := by omega
    have hx' : (Ls D n (-1) 196)[k]? = some (Ls D n (-1) 196)[k] := List.getElem?_eq_getElem hk2
    generalize (Ls D n (-1) 196)[k] = x at hx'
    obtain ⟨hx196, hL, -⟩ := Ls_mem hx'
    have hck : (nI k).toNatClampNeg = k := nI_clamp (by omega)
    have hcx : (nI x).toNatClampNeg = x := nI_clamp (by omega)
    have i182 : inb (nI k) 182 = true := by
      have : k < 182 := by omega
      clear ih hc hS hB hW hx' hL hq; grind [gI, gB, gC]
    have i2001 : inb (nI x) 2001 = true := by
      clear ih hc hS hB hW hx' hL hq; grind [gI, gB, gC]
    refine Ok_f (nI_ge (by omega) (by omega)) (Ok_t i182 ?_)
    rw [hck, (hc.2 k x hx').2, s_strikes hW (lDeg_in hW hn hL) hB hS, bnd_s]
    unfold F_X11_otherwise_144 F_X11_otherwise_163
    rw [hck, (hc.2 k x hx').1, nI_1, hcx]
    rw [show decide ((0 : Int32) ≠ 0) = false from by decide]
    cases hst : str D y (lDeg D n x) set false with
    | false =>
      refine Ok_t (by decide) (ih (k + 1) σ (by omega) (by omega) hB hS hc (fun z hz => ?_))
      rw [hq z hz]
      have := take_mem (z := z) hx'
      by_cases e : z = x
      · subst e; rw [hst, Bool.and_false, Bool.and_false]
      · have : decide (z ∈ (Ls D n (-1) 196).take (k + 1)) = decide (z ∈ (Ls D n (-1) 196).take k) := decide_eq_decide.mpr (this.trans ⟨fun w => w.resolve_right e, Or.inl⟩)
        rw [this]
    | true =>
      refine Ok_f (by decide) (Ok_t i182 (Ok_t i2001 ?_))
      have f : Fr [(0, 5, 999)] σ (setA σ 0 0 5 (upd (mA σ 0 0 5) x (vp_nar .boolean 0))) := Fr.AA Fr_r rfl
      refine ih (k + 1) _ (by omega) (by omega) (hB.fr5 f) (hS.fr f rfl) (hc.fr f rfl) (fun z hz => ?_)
      rw [mA_A, if_pos ⟨rfl, rfl, rfl⟩, upd_at]
      have := take_mem (z := z) hx'
      by_cases e : z = x
      · subst e
        rw [if_pos rfl, decide_eq_true (this.mpr (Or.inr rfl)), hst, Bool.true_and]
        simp only [Bool.not_true, Bool.and_false, Bool.false_eq_true, if_false]
        decide
      · have : decide (z ∈ (Ls D n (-1) 196).take (k + 1)) = decide (z ∈ (Ls D n (-1) 196).take k) := decide_eq_decide.mpr (this.trans ⟨fun w => w.resolve_right e, Or.inl⟩)
        rw [if_neg e, this]
        exact hq z hz
theorem other_56 {D : DD} (hW : WF D) {n b : Nat} {y set : Int32} (hn : n ≤ dN D 1) (hb : b ≤ dN D 1) : ∀ (m k : Nat) (σ : Mm), (Ls D n (-1) 196).length - k < m → k ≤ (Ls D n (-1) 196).length → CB D σ → SW D y (dN D 4) σ → GCh D n (-1) 196 σ →
    (∀ x, x < 196 → mA σ 0 0 5 x = if (decide (x ∈ (Ls D n (-1) 196).take k) && str D y (lDeg D n x) set false) = true then 1 else 0) →
    Ok (F_X11_otherwise_56 m set y (nI b) (nI k) σ) (fun q => q.1 = nI (cn (fun x => hx D y set n x && !hx D y set b x) 196)) := by
  have hlen := Ls_len (D := D) (n := n) (ρ := -1) 196 (Nat.le_refl _)
  intro m
  induction m with
  | zero => intro k σ h; omega
  | succ m ih =>
    intro k σ hm hk hB hS hc hq
    change Ok (B_X11_otherwise_56 (F_X11_otherwise_56 m) _ _ _ _ _) _
    unfold B_X11_otherwise_56
    rw [hc.1]
    by_cases hd : (Ls D n (-1) 196).length ≤ k
    · refine Ok_t (nI_le hd (by omega)) ?_
      rw [List.take_of_length_le hd] at hq
      refine Ok_V ((s_lookAt hW (Or.inl rfl) hb hB).frV fr_X11_lookAt) (fun τ hτ => ?_)
      obtain ⟨⟨-, hc2, hS2⟩, f⟩ := hτ
      unfold F_X11_otherwise_113
      refine other_116 hW (a := n) hb FU 0 τ (by have := Ls_len (D := D) (n := b) (ρ := -1) 196 (Nat.le_refl _); show _ < 1000000; omega) (by omega) (hB.fr (f.sub rfl)) hS2 hc2 (fun x h => ?_)
      rw [f.row (t := 0) (k := 5) 0 rfl, hq x h, mem_Ls h]
      unfold hx
      simp
    have hk2 : k < (Ls D n (-1) 196).length := by omega
    have hx' : (Ls D n (-1) 196)[k]? = some (Ls D n (-1) 196)[k] := List.getElem?_eq_getElem hk2
    generalize (Ls D n (-1) 196)[k] = x at hx'
    obtain ⟨hx196, hL, -⟩ := Ls_mem hx'
    have hck : (nI k).toNatClampNeg = k := nI_clamp (by omega)
    have hcx : (nI x).toNatClampNeg = x := nI_clamp (by omega)
    have i182 : inb (nI k) 182 = true := by
      have : k < 182 := by omega
      clear ih hc hS hB hW hx' hL hq; grind [gI, gB, gC]
    have i2001 : inb (nI x) 2001 = true := by
      clear ih hc hS hB hW hx' hL hq; grind [gI, gB, gC]
    refine Ok_f (nI_ge (by omega) (by omega)) (Ok_t i182 (Ok_t i182 ?_))
    rw [hck, (hc.2 k x hx').2, s_strikes hW (lDeg_in hW hn hL) hB hS, bnd_s]
    unfold F_X11_otherwise_98 F_X11_otherwise_99
    rw [(hc.2 k x hx').1, nI_1, hcx]
    rw [show decide ((0 : Int32) ≠ 0) = false from by decide, nar_b]
    refine Ok_t i2001 ?_
    have f : Fr [(0, 5, 999)] σ (setA σ 0 0 5 (upd (mA σ 0 0 5) x (if str D y (lDeg D n x) set false = true then 1 else 0))) := Fr.AA Fr_r rfl
    refine ih (k + 1) _ (by omega) (by omega) (hB.fr5 f) (hS.fr f rfl) (hc.fr f rfl) (fun z hz => ?_)
    rw [mA_A, if_pos ⟨rfl, rfl, rfl⟩, upd_at]
    have := take_mem (z := z) hx'
    by_cases e : z = x
    · subst e
      rw [if_pos rfl, decide_eq_true (this.mpr (Or.inr rfl)), Bool.true_and]
    · have : decide (z ∈ (Ls D n (-1) 196).take (k + 1)) = decide (z ∈ (Ls D n (-1) 196).take k) := decide_eq_decide.mpr (this.trans ⟨fun w => w.resolve_right e, Or.inl⟩)
      rw [if_neg e, this]
      exact hq z hz
theorem other_31 {D : DD} (hW : WF D) {n b : Nat} {y set : Int32} (hn : n ≤ dN D 1) (hb : b ≤ dN D 1) : ∀ (m l : Nat) (σ : Mm), 196 - l < m → l ≤ 196 → CB D σ → SW D y (dN D 4) σ → GCh D n (-1) 196 σ →
    (∀ x, x < l → mA σ 0 0 5 x = 0) →
    Ok (F_X11_otherwise_31 m set y (nI b) (nI l) σ) (fun q => q.1 = nI (cn (fun x => hx D y set n x && !hx D y set b x) 196)) := by
  intro m
  induction m with
  | zero => intro k σ h; omega
  | succ m ih =>
    intro l σ hm hl hB hS hc hq
    change Ok (B_X11_otherwise_31 (F_X11_otherwise_31 m) _ _ _ _ _) _
    unfold B_X11_otherwise_31
    by_cases hd : 196 ≤ l
    · have e : l = 196 := by omega
      subst e
      refine Ok_t (by decide) (other_56 hW hn hb FU 0 σ (by have := Ls_len (D := D) (n := n) (ρ := -1) 196 (Nat.le_refl _); show _ < 1000000; omega) (by omega) hB hS hc (fun x h => ?_))
      rw [hq x h, List.take_zero, decide_eq_false List.not_mem_nil, Bool.false_and]; rfl
    have hl2 : l < 196 := by omega
    have hck : (nI l).toNatClampNeg = l := nI_clamp (by omega)
    have i2001 : inb (nI l) 2001 = true := by clear ih hB hS hc hq hW; grind [gI, gB, gC]
    refine Ok_f (show ¬ (196 : Int32) ≤ nI l from nI_ge (b := 196) (by omega) (by decide)) (Ok_t i2001 ?_)
    unfold F_X11_otherwise_47
    rw [hck, nI_1]
    have f : Fr [(0, 5, 999)] σ (setA σ 0 0 5 (upd (mA σ 0 0 5) l (vp_nar .boolean 0))) := Fr.AA Fr_r rfl
    refine ih (l + 1) _ (by omega) (by omega) (hB.fr5 f) (hS.fr f rfl) (hc.fr f rfl) (fun z hz => ?_)
    rw [mA_A, if_pos ⟨rfl, rfl, rfl⟩, upd_at]
    by_cases e : z = l
    · rw [if_pos e]; decide
    · rw [if_neg e]; exact hq z (by omega)
theorem other_101 {D : DD} (hW : WF D) {n b : Nat} {y set : Int32} {σ : Mm} (hb : b ≤ dN D 1) (hM : RM σ 0 D) (hS : LSk D y (dN D 4) σ) (hY : MY D b (-1) σ) (hq : ∀ x, x < 196 → mA σ 3 0 65 x = if hx D y set n x then 1 else 0) : ∀ (m l : Nat), 196 - l < m → l ≤ 196 →
    F_X12_otherwise_101 m set (nI (cn (fun x => hx D y set n x && !hx D y set b x) l)) (nI l) σ = some (nI (cn (fun x => hx D y set n x && !hx D y set b x) 196), σ) := by
  intro m
  induction m with
  | zero => intro l h; omega
  | succ m ih =>
    intro l hm hl
    change B_X12_otherwise_101 (F_X12_otherwise_101 m) _ _ _ _ = _
    unfold B_X12_otherwise_101
    by_cases hd : 196 ≤ l
    · have e : l = 196 := by omega
      subst e
      rw [if_pos (by decide)]
    have hl2 : l < 196 := by omega
    obtain ⟨-, -, -, -, -, -, d7, d8, -, -⟩ := nI14 hl2
    obtain ⟨-, y2, y3⟩ := hY l hl2
    have i1 := ih (l + 1) (by omega) (by omega)
    have e : cn (fun x => hx D y set n x && !hx D y set b x) (l + 1) = cn (fun x => hx D y set n x && !hx D y set b x) l + (if (hx D y set n l && !hx D y set b l) = true then 1 else 0) := rfl
    rw [e] at i1
    unfold F_X12_otherwise_152 F_X12_otherwise_155
    rw [if_neg (show ¬ (196 : Int32) ≤ nI l from nI_ge (b := 196) (by omega) (by decide)), if_pos d8, d7, hq l hl2, y2, nI_1, nI_1]
    cases h1 : hx D y set n l with
    | false =>
      rw [h1, Bool.false_and] at i1
      rw [if_pos (by decide)]; exact i1
    | true =>
      rw [h1, Bool.true_and] at i1
      rw [if_neg (by decide), if_pos d8]
      unfold hx at i1
      cases hc : (isL D b l && hRule D b l (-1)) with
      | false =>
        rw [hc] at i1
        rw [if_pos (by decide)]; exact i1
      | true =>
        have hL : isL D b l = true := by
          simp only [Bool.and_eq_true] at hc; exact hc.1
        rw [hc, Bool.true_and] at i1
        rw [if_neg (by decide), if_pos d8, if_pos (show inb 0 5 = true by decide), c0, hM.1.1, y3 hL, s_hitBy hW hM hS, bnd_s]
        unfold F_X12_otherwise_147 F_X12_otherwise_152 F_X12_otherwise_155
        rw [nI_1, nI_1]
        rw [show decide ((0 : Int32) ≠ 0) = false from by decide]
        unfold str at i1
        by_cases h : HB D y (lDeg D b l) (nI (dN D 6)) false &&& set = 0
        · rw [decide_eq_false (not_not_intro h)] at i1
          rw [if_pos h]; exact i1
        · rw [decide_eq_true (p := _ ≠ (0 : Int32)) h] at i1
          rw [if_neg h]; exact i1
theorem other_30 {D : DD} (hW : WF D) {n b : Nat} {y set : Int32} (hn : n ≤ dN D 1) (hb : b ≤ dN D 1) : ∀ (m l : Nat) (σ : Mm), 196 - l < m → l ≤ 196 → RM σ 0 D → LSk D y (dN D 4) σ → MY D n (-1) σ →
    (∀ x, x < l → mA σ 3 0 65 x = if hx D y set n x then 1 else 0) →
    Ok (F_X12_otherwise_30 m set (nI b) (nI l) σ) (fun q => q.1 = nI (cn (fun x => hx D y set n x && !hx D y set b x) 196)) := by
  intro m
  induction m with
  | zero => intro k σ h; omega
  | succ m ih =>
    intro l σ hm hl hM hS hY hq
    change Ok (B_X12_otherwise_30 (F_X12_otherwise_30 m) _ _ _ _) _
    unfold B_X12_otherwise_30
    by_cases hd : 196 ≤ l
    · have e : l = 196 := by omega
      subst e
      refine Ok_t (by decide) (Ok_V ((s_lay hW hb hM).frV fr_X12_lay) (fun τ hτ => ?_))
      obtain ⟨hY2, f⟩ := hτ
      unfold F_X12_otherwise_95
      have := other_101 (n := n) (set := set) hW hb (hM.fr (f.sub rfl)) (hS.fr f rfl) hY2.my (fun x h => by rw [f.row (t := 3) (k := 65) 0 rfl]; exact hq x h) FU 0 (by show _ < 1000000; omega) (by omega)
      exact ⟨_, this, rfl⟩
    have hl2 : l < 196 := by omega
    obtain ⟨-, -, -, -, -, -, d7, d8, -, -⟩ := nI14 hl2
    obtain ⟨-, y2, y3⟩ := hY l hl2
    refine Ok_f (show ¬ (196 : Int32) ≤ nI l from nI_ge (b := 196) (by omega) (by decide)) (Ok_t d8 ?_)
    have next : Ok (F_X12_otherwise_82 (F_X12_otherwise_30 m) set (nI b) (nI l) (if hx D y set n l = true then 1 else 0) (nI l) σ) (fun q => q.1 = nI (cn (fun x => hx D y set n x && !hx D y set b x) 196)) := by
      unfold F_X12_otherwise_82 F_X12_otherwise_83
      refine Ok_t d8 ?_
      rw [d7, nI_1, nar_b]
      have f : Fr [(3, 65, 999)] σ (setA σ 3 0 65 (upd (mA σ 3 0 65) l (if hx D y set n l = true then 1 else 0))) := Fr.AA Fr_r rfl
      refine ih (l + 1) _ (by omega) (by omega) (hM.fr (f.sub rfl)) (hS.fr f rfl) (hY.fr f rfl) (fun z hz => ?_)
      rw [mA_A, if_pos ⟨rfl, rfl, rfl⟩, upd_at]
      by_cases e : z = l
      · rw [if_pos e, e]
      · rw [if_neg e]; exact hq z (by omega)
    unfold F_X12_otherwise_81
    rw [d7, y2]
    cases hc : (isL D n l && hRule D n l (-1)) with
    | false =>
      have e : hx D y set n l = false := by unfold hx; rw [hc]; rfl
      rw [e] at next
      exact Ok_t (by decide) next
    | true =>
      have hL : isL D n l = true := by
        simp only [Bool.and_eq_true] at hc; exact hc.1
      have e : hx D y set n l = str D y (lDeg D n l) set false := by unfold hx; rw [hc]; rfl
      rw [e] at next
      refine Ok_f (by decide) (Ok_t d8 (Ok_t (by decide) ?_))
      rw [c0, hM.1.1, y3 hL, s_hitBy hW hM hS, bnd_s]
      unfold F_X12_otherwise_72 F_X12_otherwise_81
      rw [show decide ((0 : Int32) ≠ 0) = false from by decide]
      unfold str at next
      by_cases h : HB D y (lDeg D n l) (nI (dN D 6)) false &&& set = 0
      · rw [decide_eq_false (not_not_intro h)] at next
        exact Ok_t h next
      · rw [decide_eq_true (p := _ ≠ (0 : Int32)) h] at next
        exact Ok_f h next
theorem p_otherwise {h : Nat → Bool} {σ : Mm} (hI : Iv h σ) (set y n' b' : Int32) : ∃ (r : Int32) (σ1 : Mm) (σ2 : Mm), F_X11_otherwise set y n' b' σ = some (r, σ1) ∧ F_X12_otherwise set y n' b' σ1 = some (r, σ2) ∧ Iv h σ2 := by
  obtain ⟨D, hC, hM, hW⟩ := id hI.2.2.2.2.2
  have oP := okP_of hI.1
  have h60 := hW.2.1
  have hB : CB D σ := ⟨hI.1, hC⟩
  by_cases v1 : asK D set y n'
  · obtain ⟨n, hn, rfl⟩ := known_nat (by omega) v1.2.2
    by_cases v2 : 0 ≤ b' ∧ b' ≤ nI (dN D 1)
    · obtain ⟨b, hb, rfl⟩ := known_nat (by omega) v2
      refine q_call hI fr_X11_otherwise rfl (nI (cn (fun x => hx D y set n x && !hx D y set b x) 196)) ?_ (fun _ => fr_X12_otherwise) rfl (fun σ1 f1 => ?_)
      · unfold F_X11_otherwise F_X11_otherwise_28
        rw [if_pos oP, if_neg (fun z => (askedC hC).mp z v1), isKnownC (s := 0) hC.2.2.2.2.2.2.2, if_pos v2, if_neg ne10]
        refine Ok_V ((s_lookAt hW (Or.inl rfl) hn hB).frV fr_X11_lookAt) (fun τ hτ => ?_)
        obtain ⟨⟨-, hc, hS⟩, f⟩ := hτ
        exact other_31 hW hn hb FU 0 τ (by show _ < 1000000; omega) (by omega) (hB.fr (f.sub rfl)) hS hc (fun x h => absurd h (by omega))
      · have hM1 : RM σ1 0 D := hM.fr (f1.sub rfl)
        unfold F_X12_otherwise F_X12_otherwise_7 F_X12_otherwise_16 F_X12_otherwise_27
        rw [isSetM hM1 v1, bnd_s, if_neg ne10, isKnownM hM1, bnd_s, if_pos v2, if_neg ne10]
        refine Ok_V ((s_layAll hW hn hM1).frV fr_X12_layAll) (fun τ hτ => ?_)
        obtain ⟨⟨hY, hS⟩, f⟩ := hτ
        exact other_30 hW hn hb FU 0 τ (by show _ < 1000000; omega) (by omega) (hM1.fr (f.sub rfl)) hS hY.my (fun x h => absurd h (by omega))
    · refine ⟨-1, σ, σ, ?_, ?_, hI⟩
      · unfold F_X11_otherwise
        rw [if_pos oP, if_neg (fun z => (askedC hC).mp z v1), isKnownC (s := 0) hC.2.2.2.2.2.2.2, if_neg v2, if_pos rfl]
      · unfold F_X12_otherwise F_X12_otherwise_7 F_X12_otherwise_16
        rw [isSetM hM v1, bnd_s, if_neg ne10, isKnownM hM, bnd_s, if_neg v2, if_pos rfl]
  · refine ⟨-1, σ, σ, ?_, ?_, hI⟩
    · unfold F_X11_otherwise
      rw [if_pos oP, if_pos ((askedC hC).mpr v1)]
    · unfold F_X12_otherwise F_X12_otherwise_7
      rw [isSetMN hM v1, bnd_s, if_pos rfl]
