/-! looked at: what is asked for, both sides -/
theorem IvP.fr {σ τ : Mm} (hP : IvP σ) (hf : Fr WQ σ τ) : IvP τ := by
  have p : ∀ n, mP τ n = mP σ n := fun n => hf.p (by rfl)
  unfold IvP; rw [p, p, p]
  refine ⟨hP.1, hP.2.1, hP.2.2.1, hP.2.2.2.1, fun k k2 k9 => ?_⟩
  have e : inW WQ 0 28 k = false := by
    have : k = 2 ∨ k = 3 ∨ k = 4 ∨ k = 5 ∨ k = 6 ∨ k = 7 ∨ k = 8 := by omega
    rcases this with rfl | rfl | rfl | rfl | rfl | rfl | rfl <;> rfl
  rw [hf.fld 0 e]; exact hP.2.2.2.2 k k2 k9
/-- the class with the site told by D -/
def CB (D : DD) (σ : Mm) : Prop := IvP σ ∧ RC σ (mP σ 0) 0 D
theorem CB.fr {D : DD} {σ τ : Mm} (h : CB D σ) (hf : Fr WQ σ τ) : CB D τ := by
  refine ⟨h.1.fr hf, ?_⟩
  rw [show mP τ 0 = mP σ 0 from hf.p (by rfl)]
  exact h.2.fr hf
theorem SW.fr {D : DD} {y : Int32} {k : Nat} {W : List (Nat × Nat × Nat)} {σ τ : Mm} (h : SW D y k σ) (hf : Fr W σ τ) (hw : (!(inW W 0 25 0) && (noW W 0 26 && noW W 0 27)) = true) : SW D y k τ := by
  simp only [Bool.and_eq_true, Bool.not_eq_true'] at hw
  unfold SW
  rw [hf.fld (t := 0) (k := 25) (f := 0) 0 hw.1, hf.row (t := 0) (k := 26) 0 hw.2.1, hf.row (t := 0) (k := 27) 0 hw.2.2]
  exact h
theorem GCh.fr {D : DD} {n : Nat} {ρ : Int32} {l : Nat} {W : List (Nat × Nat × Nat)} {σ τ : Mm} (h : GCh D n ρ l σ) (hf : Fr W σ τ) (hw : (!(inW W 0 15 8) && (noW W 0 23 && noW W 0 24)) = true) : GCh D n ρ l τ := by
  simp only [Bool.and_eq_true, Bool.not_eq_true'] at hw
  unfold GCh
  rw [hf.fld (t := 0) (k := 15) (f := 8) 0 hw.1, hf.row (t := 0) (k := 23) 0 hw.2.1, hf.row (t := 0) (k := 24) 0 hw.2.2]
  exact h
def okRu (D : DD) (ρ : Int32) : Prop := ρ = -1 ∨ ∃ r : Nat, r < dN D 5 ∧ ρ = nI r
/-- the class looks -/
theorem s_lookAt {D : DD} (hW : WF D) {n : Nat} {y ρ : Int32} {σ : Mm} (hρ : okRu D ρ) (hn : n ≤ dN D 1) (hB : CB D σ) : Ok (F_X11_lookAt y (nI n) ρ σ) (fun τ => GK D n τ ∧ GCh D n ρ 196 τ ∧ SW D y (dN D 4) τ) := by
  unfold F_X11_lookAt
  refine Ok_t (okP_of hB.1) (Ok_V ((s_know hW hn hB.2).frV fr_X2_know) (fun τ hτ => ?_))
  obtain ⟨hG, f1⟩ := hτ
  have hB1 : CB D τ := hB.fr (f1.sub rfl)
  unfold F_X11_lookAt_16
  refine Ok_t (okP_of hB1.1) (Ok_V ((s_choose hW hρ hn hB1.2 hG).frV fr_X2_choose) (fun υ hυ => ?_))
  obtain ⟨hc, f2⟩ := hυ
  have hB2 : CB D υ := hB1.fr (f2.sub rfl)
  have hG2 : GK D n υ := hG.fr f2 rfl
  unfold F_X11_lookAt_28
  refine Ok_t (okP_of hB2.1) (Ok_V ((s_watch hW hB2.2 hB2.1.2.2.2.2).frV fr_X6_watch) (fun φ hφ => ?_))
  obtain ⟨hS, f3⟩ := hφ
  exact Ok_r ⟨hG2.fr f3 rfl, hc.fr f3 rfl, hS⟩
/-- whether a way hits one of a set -/
def str (D : DD) (y w set : Int32) (su : Bool) : Bool := decide (HB D y w (nI (dN D 6)) su &&& set ≠ 0)
theorem s_strikes {D : DD} (hW : WF D) {y w set s : Int32} {σ : Mm} (hw : rIn w 359) (hB : CB D σ) (hS : SW D y (dN D 4) σ) : F_X11_strikes w set s σ = some (if str D y w set (decide (s ≠ 0)) then 1 else 0, σ) := by
  unfold F_X11_strikes F_X11_strikes_16
  rw [if_pos (okP_of hB.1), hB.2.1.1, s_struck hW hw hS, bnd_s]
  unfold str
  by_cases h : HB D y w (nI (dN D 6)) (decide (s ≠ 0)) &&& set = 0
  · rw [if_pos h, decide_eq_false (not_not_intro h)]; rfl
  · rw [if_neg h, decide_eq_true (p := _ ≠ 0) h]; rfl
theorem turned_in {w t : Int32} (hw : rIn w 359) (ht : rIn t 359) : rIn (f_X1_turned w t) 359 := by
  obtain ⟨a, b⟩ := hw
  obtain ⟨c, d⟩ := ht
  unfold f_X1_turned
  split
  · constructor <;> grind
  · constructor <;> grind
theorem turned_eq {w t : Int32} (hw : rIn w 359) (ht : rIn t 359) : f_X12_turned w t = f_X1_turned w t := by
  obtain ⟨a, b⟩ := hw
  obtain ⟨c, d⟩ := ht
  have h0 : 0 ≤ w + t := by grind
  have h1 : w + t ≤ 718 := by grind
  unfold f_X12_turned f_X1_turned
  generalize w + t = v at *
  rw [gM360 v h0]
  by_cases h : (360 : Int32) ≤ v
  · rw [if_pos h]
    have e : v.toNatClampNeg % 360 = v.toNatClampNeg - 360 := by
      have : 360 ≤ v.toNatClampNeg ∧ v.toNatClampNeg ≤ 718 := by
        clear a b c d
        constructor <;> grind [gI, gC]
      omega
    rw [e]
    clear a b c d
    grind [gI, gC]
  · rw [if_neg h]
    have e : v.toNatClampNeg % 360 = v.toNatClampNeg := Nat.mod_eq_of_lt (by clear a b c d; grind [gI, gC])
    rw [e, ← (gC v h0).1]
theorem turned0 {w : Int32} (hw : rIn w 359) : f_X1_turned w 0 = w := by
  obtain ⟨a, b⟩ := hw
  unfold f_X1_turned
  rw [Int32.add_zero, if_neg (by grind)]
theorem lDeg_in {D : DD} (hW : WF D) {n l : Nat} (hn : n ≤ dN D 1) (hL : isL D n l = true) : rIn (lDeg D n l) 359 := by
  obtain ⟨-, c1, c2, -, -, -⟩ := isL_sp hL
  obtain ⟨r1, r2⟩ := lEH hW hn c1 c2
  obtain ⟨a, b⟩ := bear_in r1 r2 (lne hL)
  have e : lDeg D n l = bear (lE D n l) (lH D n l) := rfl
  rw [e]
  generalize bear (lE D n l) (lH D n l) = z at *
  exact ⟨a, by grind⟩
theorem Ls_mem {D : DD} {n : Nat} {ρ : Int32} {l k x : Nat} (h : (Ls D n ρ l)[k]? = some x) : x < l ∧ isL D n x = true ∧ hRule D n x ρ = true := by
  have := List.mem_of_getElem? h
  unfold Ls at this
  obtain ⟨h1, h2⟩ := List.mem_filter.mp this
  simp only [Bool.and_eq_true] at h2
  exact ⟨List.mem_range.mp h1, h2⟩
/-- how many of the chosen have a property -/
def cP (q : Nat → Bool) : List Nat → Nat
  | [] => 0
  | x :: r => (if q x then 1 else 0) + cP q r
theorem cP_app {q : Nat → Bool} {A B : List Nat} : cP q (A ++ B) = cP q A + cP q B := by
  induction A with
  | nil => show cP q B = 0 + cP q B; omega
  | cons a A ih => show _ + cP q (A ++ B) = _ + cP q A + cP q B; rw [ih]; omega
theorem cP_Ls {D : DD} {n : Nat} {ρ : Int32} {q : Nat → Bool} : ∀ l, cP q (Ls D n ρ l) = cn (fun x => (isL D n x && hRule D n x ρ) && q x) l := by
  intro l
  induction l with
  | zero => rfl
  | succ l ih =>
    rw [Ls_s, cP_app, ih]
    show _ = cn _ l + (if ((isL D n l && hRule D n l ρ) && q l) = true then 1 else 0)
    cases (isL D n l && hRule D n l ρ)
    · rfl
    · show _ + ((if q l = true then 1 else 0) + 0) = _
      rw [Bool.true_and]; rfl
theorem cP_le {q : Nat → Bool} {A : List Nat} : cP q A ≤ A.length := by
  induction A with
  | nil => exact Nat.le_refl _
  | cons a A ih =>
    show (if q a then 1 else 0) + cP q A ≤ A.length + 1
    split <;> omega
theorem cP_take {q : Nat → Bool} {A : List Nat} {k x : Nat} (h : A[k]? = some x) : cP q (A.take (k + 1)) = cP q (A.take k) + if q x then 1 else 0 := by
  have : A.take (k + 1) = A.take k ++ [x] := by
    rw [List.take_add_one, h]; rfl
  rw [this, cP_app]
  rfl
/-- HITS of a set in a turn -/
def hN (D : DD) (n : Nat) (ρ y set t : Int32) (su : Bool) : Nat := cn (fun x => (isL D n x && hRule D n x ρ) && str D y (f_X1_turned (lDeg D n x) t) set su) 196
theorem hN_le {D : DD} {n : Nat} {ρ y set t : Int32} {su : Bool} : hN D n ρ y set t su ≤ 182 := by
  unfold hN
  rw [← cP_Ls (q := fun x => str D y (f_X1_turned (lDeg D n x) t) set su)]
  have h1 := cP_le (q := fun x => str D y (f_X1_turned (lDeg D n x) t) set su) (A := Ls D n ρ 196)
  have h2 := Ls_len (D := D) (n := n) (ρ := ρ) 196 (Nat.le_refl _)
  omega
theorem hitsT_6 {D : DD} (hW : WF D) {n : Nat} {ρ y set t s : Int32} {σ : Mm} (hn : n ≤ dN D 1) (ht : rIn t 359) (hB : CB D σ) (hS : SW D y (dN D 4) σ) (hc : GCh D n ρ 196 σ) : ∀ (m k : Nat), (Ls D n ρ 196).length - k < m → k ≤ (Ls D n ρ 196).length →
    F_X11_hitsTurned_6 m set t s (nI (cP (fun x => str D y (f_X1_turned (lDeg D n x) t) set (decide (s ≠ 0))) ((Ls D n ρ 196).take k))) (nI k) σ = some (nI (hN D n ρ y set t (decide (s ≠ 0))), σ) := by
  have hlen := Ls_len (D := D) (n := n) (ρ := ρ) 196 (Nat.le_refl _)
  intro m
  induction m with
  | zero => intro k h; omega
  | succ m ih =>
    intro k hm hk
    change B_X11_hitsTurned_6 (F_X11_hitsTurned_6 m) _ _ _ _ _ _ = _
    unfold B_X11_hitsTurned_6
    rw [hc.1]
    by_cases hd : (Ls D n ρ 196).length ≤ k
    · rw [if_pos (nI_le hd (by omega)), List.take_of_length_le hd, cP_Ls]; rfl
    have hk2 : k < (Ls D n ρ 196).length := by omega
    have hx : (Ls D n ρ 196)[k]? = some (Ls D n ρ 196)[k] := List.getElem?_eq_getElem hk2
    generalize (Ls D n ρ 196)[k] = x at hx
    obtain ⟨-, hL, -⟩ := Ls_mem hx
    have hck : (nI k).toNatClampNeg = k := nI_clamp (by omega)
    have i182 : inb (nI k) 182 = true := by
      have : k < 182 := by omega
      clear ih hc hS hB hW hx hL ht; grind [gI, gB, gC]
    have i1 := ih (k + 1) (by omega) (by omega)
    rw [cP_take hx] at i1
    rw [if_neg (nI_ge (by omega) (by omega)), if_pos i182, hck, (hc.2 k x hx).2, s_strikes hW (turned_in (lDeg_in hW hn hL) ht) hB hS, bnd_s]
    unfold F_X11_hitsTurned_38 F_X11_hitsTurned_44
    rw [nI_1, nI_1]
    cases hst : str D y (f_X1_turned (lDeg D n x) t) set (decide (s ≠ 0)) with
    | false => rw [hst] at i1; rw [if_pos (by decide)]; exact i1
    | true => rw [hst] at i1; rw [if_neg (by decide)]; exact i1
theorem s_hitsTurned {D : DD} (hW : WF D) {n : Nat} {ρ y set t s : Int32} {σ : Mm} (hn : n ≤ dN D 1) (ht : rIn t 359) (hB : CB D σ) (hS : SW D y (dN D 4) σ) (hc : GCh D n ρ 196 σ) : F_X11_hitsTurned set t s σ = some (nI (hN D n ρ y set t (decide (s ≠ 0))), σ) :=
  hitsT_6 hW hn ht hB hS hc FU 0 (by have := Ls_len (D := D) (n := n) (ρ := ρ) 196 (Nat.le_refl _); show _ < 1000000; omega) (by omega)
theorem s_hitsNow {D : DD} (hW : WF D) {n : Nat} {ρ y set : Int32} {σ : Mm} (hn : n ≤ dN D 1) (hB : CB D σ) (hS : SW D y (dN D 4) σ) (hc : GCh D n ρ 196 σ) : F_X11_hitsNow set σ = some (nI (hN D n ρ y set 0 false), σ) := by
  unfold F_X11_hitsNow F_X11_hitsNow_7
  rw [s_hitsTurned hW hn ⟨by decide, by decide⟩ hB hS hc, bnd_s]
  rfl
/-- the model with its LINES laid, by all RULES or by one -/
def MY (D : DD) (n : Nat) (ρ : Int32) (σ : Mm) : Prop := ∀ x, x < 196 → mA σ 3 0 52 x = (if isL D n x then 1 else 0) ∧ mA σ 3 0 55 x = (if isL D n x && hRule D n x ρ then 1 else 0) ∧ (isL D n x = true → mA σ 3 0 53 x = lDeg D n x)
theorem LY.my {D : DD} {n : Nat} {σ : Mm} (h : LY D n σ) : MY D n (-1) σ := fun x hx => ⟨(h.2 x hx).1, by rw [← cntd_h]; exact (h.2 x hx).2.1, fun z => ((h.2 x hx).2.2 z).1⟩
theorem MY.fr {D : DD} {n : Nat} {ρ : Int32} {W : List (Nat × Nat × Nat)} {σ τ : Mm} (h : MY D n ρ σ) (hf : Fr W σ τ) (hw : (noW W 3 52 && (noW W 3 53 && noW W 3 55)) = true) : MY D n ρ τ := by
  simp only [Bool.and_eq_true] at hw
  unfold MY
  rw [hf.row (t := 3) (k := 52) 0 hw.1, hf.row (t := 3) (k := 53) 0 hw.2.1, hf.row (t := 3) (k := 55) 0 hw.2.2]
  exact h
theorem LSk.fr {D : DD} {y : Int32} {k : Nat} {W : List (Nat × Nat × Nat)} {σ τ : Mm} (h : LSk D y k σ) (hf : Fr W σ τ) (hw : noW W 3 58 = true) : LSk D y k τ := by
  unfold LSk
  rw [hf.row (t := 3) (k := 58) 0 hw]
  exact h
theorem s_layAll {D : DD} (hW : WF D) {n : Nat} {y : Int32} {σ : Mm} (hn : n ≤ dN D 1) (hM : RM σ 0 D) : Ok (F_X12_layAll y (nI n) σ) (fun τ => LY D n τ ∧ LSk D y (dN D 4) τ) := by
  unfold F_X12_layAll F_X12_layAll_5
  refine Ok_V ((s_lay hW hn hM).frV fr_X12_lay) (fun τ hτ => ?_)
  obtain ⟨hY, f⟩ := hτ
  refine Ok_V ((s_laySky hW (hM.fr (f.sub rfl))).frV fr_X12_laySky) (fun υ hυ => Ok_r ?_)
  obtain ⟨hS, f2⟩ := hυ
  exact ⟨⟨hY.1.fr f2 rfl, fun x hx => (hY.2 x hx).fr f2 rfl⟩, hS⟩
theorem hitsOf_6 {D : DD} (hW : WF D) {n : Nat} {ρ y set t s : Int32} {σ : Mm} (hn : n ≤ dN D 1) (ht : rIn t 359) (hM : RM σ 0 D) (hS : LSk D y (dN D 4) σ) (hY : MY D n ρ σ) : ∀ (m l : Nat), 196 - l < m → l ≤ 196 →
    F_X12_hitsOf_6 m set t s (nI (cn (fun x => (isL D n x && hRule D n x ρ) && str D y (f_X1_turned (lDeg D n x) t) set (decide (s ≠ 0))) l)) (nI l) σ = some (nI (hN D n ρ y set t (decide (s ≠ 0))), σ) := by
  intro m
  induction m with
  | zero => intro l h; omega
  | succ m ih =>
    intro l hm hl
    change B_X12_hitsOf_6 (F_X12_hitsOf_6 m) _ _ _ _ _ _ = _
    unfold B_X12_hitsOf_6 F_X12_hitsOf_54
    by_cases hd : 196 ≤ l
    · have e : l = 196 := by omega
      subst e
      rw [if_pos (by decide)]; rfl
    have hl2 : l < 196 := by omega
    obtain ⟨-, -, -, -, -, -, d7, d8, -, -⟩ := nI14 hl2
    obtain ⟨-, y2, y3⟩ := hY l hl2
    have i1 := ih (l + 1) (by omega) (by omega)
    have e : cn (fun x => (isL D n x && hRule D n x ρ) && str D y (f_X1_turned (lDeg D n x) t) set (decide (s ≠ 0))) (l + 1) = cn (fun x => (isL D n x && hRule D n x ρ) && str D y (f_X1_turned (lDeg D n x) t) set (decide (s ≠ 0))) l + (if ((isL D n l && hRule D n l ρ) && str D y (f_X1_turned (lDeg D n l) t) set (decide (s ≠ 0))) = true then 1 else 0) := rfl
    rw [e] at i1
    rw [if_neg (show ¬ (196 : Int32) ≤ nI l from nI_ge (b := 196) (by omega) (by decide)), if_pos d8, d7, y2, nI_1]
    cases hc : (isL D n l && hRule D n l ρ) with
    | false =>
      rw [hc] at i1
      rw [if_pos (by decide)]; exact i1
    | true =>
      have hL : isL D n l = true := by
        simp only [Bool.and_eq_true] at hc; exact hc.1
      rw [hc, Bool.true_and] at i1
      rw [if_neg (by decide), if_pos d8, if_pos (show inb 0 5 = true by decide), c0, hM.1.1, y3 hL, turned_eq (lDeg_in hW hn hL) ht, s_hitBy hW hM hS, bnd_s]
      unfold F_X12_hitsOf_46 F_X12_hitsOf_54
      rw [nI_1, nI_1]
      unfold str at i1 ⊢
      by_cases h : HB D y (f_X1_turned (lDeg D n l) t) (nI (dN D 6)) (decide (s ≠ 0)) &&& set = 0
      · rw [decide_eq_false (not_not_intro h)] at i1
        rw [if_pos h]; exact i1
      · rw [decide_eq_true (p := _ ≠ (0 : Int32)) h] at i1
        rw [if_neg h]; exact i1
theorem s_hitsOf {D : DD} (hW : WF D) {n : Nat} {ρ y set t s : Int32} {σ : Mm} (hn : n ≤ dN D 1) (ht : rIn t 359) (hM : RM σ 0 D) (hS : LSk D y (dN D 4) σ) (hY : MY D n ρ σ) : F_X12_hitsOf set t s σ = some (nI (hN D n ρ y set t (decide (s ≠ 0))), σ) :=
  hitsOf_6 hW hn ht hM hS hY FU 0 (by decide) (by omega)
/-- what may be asked for -/
def asK (D : DD) (set y n : Int32) : Prop := (0 ≤ set ∧ set < 1 <<< (nI (dN D 4) &&& 31)) ∧ (0 ≤ y ∧ y ≤ 5000) ∧ (0 ≤ n ∧ n ≤ nI (dN D 1))
theorem askedC {D : DD} {set y n : Int32} {σ : Mm} (hC : RC σ (mP σ 0) 0 D) : (f_X11_isAsked set y n σ = 0 ↔ ¬ asK D set y n) := by
  unfold f_X11_isAsked asK
  rw [hC.1.2.2.2.2.1, isYearC, isKnownC (s := 0) hC.2.2.2.2.2.2.2]
  generalize (1 : Int32) <<< (nI (dN D 4) &&& 31) = z
  generalize nI (dN D 1) = F
  clear hC
  by_cases h1 : set < 0
  · rw [if_pos h1]; simp; intro a; exfalso; grind
  rw [if_neg h1]
  by_cases h2 : z ≤ set
  · rw [if_pos h2]; simp; intro a b; exfalso; grind
  rw [if_neg h2]
  by_cases h3 : 0 ≤ y ∧ y ≤ 5000
  · rw [if_pos h3, if_neg ne10]
    by_cases h4 : 0 ≤ n ∧ n ≤ F
    · rw [if_pos h4, if_neg ne10]
      constructor
      · intro w; exact absurd w ne10
      · intro w; exact absurd ⟨⟨by grind, by grind⟩, h3, h4⟩ w
    · rw [if_neg h4, if_pos rfl]
      exact ⟨fun _ w => h4 w.2.2, fun _ => rfl⟩
  · rw [if_neg h3, if_pos rfl]
    exact ⟨fun _ w => h3 w.2.1, fun _ => rfl⟩
theorem isSetM {D : DD} {set y n : Int32} {σ : Mm} (hM : RM σ 0 D) (h : asK D set y n) : F_X12_isSet set y n σ = some (1, σ) := by
  obtain ⟨⟨h1, h2⟩, h3, h4⟩ := h
  unfold F_X12_isSet F_X12_isSet_28
  rw [if_pos (show inb 0 5 = true by decide), c0, hM.1.2.2.2.2.1, isYearM, if_pos h3, if_neg ne10, isKnownM hM, bnd_s, if_pos h4, if_neg ne10]
  generalize (1 : Int32) <<< (nI (dN D 4) &&& 31) = z at *
  clear hM h3 h4
  rw [if_neg (by grind), if_neg (by grind)]
theorem isSetMN {D : DD} {set y n : Int32} {σ : Mm} (hM : RM σ 0 D) (h : ¬ asK D set y n) : F_X12_isSet set y n σ = some (0, σ) := by
  unfold F_X12_isSet F_X12_isSet_28
  rw [if_pos (show inb 0 5 = true by decide), c0, hM.1.2.2.2.2.1, isYearM, isKnownM hM, bnd_s]
  unfold asK at h
  generalize (1 : Int32) <<< (nI (dN D 4) &&& 31) = z at *
  generalize nI (dN D 1) = F at *
  clear hM
  by_cases h1 : set < 0
  · rw [if_pos h1]
  rw [if_neg h1]
  by_cases h2 : z ≤ set
  · rw [if_pos h2]
  rw [if_neg h2]
  by_cases h3 : 0 ≤ y ∧ y ≤ 5000
  · rw [if_pos h3, if_neg ne10]
    by_cases h4 : 0 ≤ n ∧ n ≤ F
    · exact absurd ⟨⟨by grind, by grind⟩, h3, h4⟩ h
    · rw [if_neg h4, if_pos rfl]
  · rw [if_neg h3, if_pos rfl]
theorem p_hits {h : Nat → Bool} {σ : Mm} (hI : Iv h σ) (set y t b n' : Int32) : ∃ (r : Int32) (σ1 : Mm) (σ2 : Mm), F_X11_hits set y t b n' σ = some (r, σ1) ∧ F_X12_hits set y t b n' σ1 = some (r, σ2) ∧ Iv h σ2 := by
  obtain ⟨D, hC, hM, hW⟩ := id hI.2.2.2.2.2
  have oP := okP_of hI.1
  have h60 := hW.2.1
  by_cases hv : asK D set y n' ∧ (0 ≤ t ∧ t ≤ 359)
  · obtain ⟨v1, v2⟩ := hv
    obtain ⟨n, hn, rfl⟩ := known_nat (by omega) v1.2.2
    refine q_call hI fr_X11_hits rfl (nI (hN D n (-1) y set t (decide (b ≠ 0)))) ?_ (fun _ => fr_X12_hits) rfl (fun σ1 f1 => ?_)
    · unfold F_X11_hits F_X11_hits_28 F_X11_hits_36
      have hB : CB D σ := ⟨hI.1, hC⟩
      rw [if_pos oP, if_neg (fun z => (askedC hC).mp z v1), isDegreeC, if_pos v2, if_neg ne10]
      refine Ok_V ((s_lookAt hW (Or.inl rfl) hn hB).frV fr_X11_lookAt) (fun τ hτ => ?_)
      obtain ⟨⟨-, hc, hS⟩, f⟩ := hτ
      rw [s_hitsTurned hW hn v2 (hB.fr (f.sub rfl)) hS hc, bnd_s]
      exact Ok_r rfl
    · have hM1 : RM σ1 0 D := hM.fr (f1.sub rfl)
      unfold F_X12_hits F_X12_hits_8 F_X12_hits_31 F_X12_hits_39
      rw [isSetM hM1 v1, bnd_s, if_neg ne10, isInM, if_pos v2, if_neg ne10]
      refine Ok_V ((s_layAll hW hn hM1).frV fr_X12_layAll) (fun τ hτ => ?_)
      obtain ⟨⟨hY, hS⟩, f⟩ := hτ
      rw [s_hitsOf hW hn v2 (hM1.fr (f.sub rfl)) hS hY.my, bnd_s]
      exact Ok_r rfl
  · refine ⟨-1, σ, σ, ?_, ?_, hI⟩
    · unfold F_X11_hits
      rw [if_pos oP]
      by_cases v1 : asK D set y n'
      · rw [if_neg (fun z => (askedC hC).mp z v1), isDegreeC, if_neg (fun z => hv ⟨v1, z⟩), if_pos rfl]
      · rw [if_pos ((askedC hC).mpr v1)]
    · unfold F_X12_hits F_X12_hits_8
      by_cases v1 : asK D set y n'
      · rw [isSetM hM v1, bnd_s, if_neg ne10, isInM, if_neg (fun z => hv ⟨v1, z⟩), if_pos rfl]
      · rw [isSetMN hM v1, bnd_s, if_pos rfl]
