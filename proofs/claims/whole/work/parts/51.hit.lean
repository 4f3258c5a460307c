/-! hit and hitAt -/
set_option maxRecDepth 100000 in
theorem bit_or : ∀ p, p < 5 → ∀ z, z < 2 ^ p → nI z ||| ((1 : Int32) <<< (nI p &&& 31)) = nI (z + 2 ^ p) := by decide +kernel
theorem hb_nat {D : DD} {y w c : Int32} {su : Bool} : ∀ p, p ≤ 5 → ∃ z, z < 2 ^ p ∧ hb D y w c su p = nI z := by
  intro p
  induction p with
  | zero => intro _; exact ⟨0, by decide, rfl⟩
  | succ p ih =>
    intro hp
    obtain ⟨z, hz, e⟩ := ih (by omega)
    have h2 : 2 ^ (p + 1) = 2 ^ p * 2 := Nat.pow_succ 2 p
    unfold hb
    rw [e]
    generalize (if su = true then _ else _) = q
    by_cases c' : f_X12_apart w (rs D p y) ≤ q
    · rw [if_pos c']; exact ⟨z + 2 ^ p, by omega, bit_or p (by omega) z hz⟩
    · rw [if_neg c']; exact ⟨z, by omega, rfl⟩
theorem HB_nat {D : DD} (hW : WF D) {y w c : Int32} {su : Bool} : ∃ z, z < 32 ∧ HB D y w c su = nI z := by
  obtain ⟨z, hz, e⟩ := hb_nat (D := D) (y := y) (w := w) (c := c) (su := su) (dN D 4) hW.2.2.2.2.1
  have : 2 ^ dN D 4 ≤ 2 ^ 5 := Nat.pow_le_pow_right (by decide) hW.2.2.2.2.1
  exact ⟨z, by omega, e⟩
set_option maxRecDepth 100000 in
theorem bit_at : ∀ p, p < 5 → ∀ z, z < 32 → (nI z &&& ((1 : Int32) <<< (nI p &&& 31)) = 0 ∧ (nI z >>> (nI p &&& 31)) &&& 1 = 0) ∨ (¬ nI z &&& ((1 : Int32) <<< (nI p &&& 31)) = 0 ∧ (nI z >>> (nI p &&& 31)) &&& 1 = 1) := by decide +kernel
theorem p_hit {h : Nat → Bool} {σ : Mm} (hI : Iv h σ) (x p' y n' : Int32) : ∃ (r : Int32) (σ1 : Mm) (σ2 : Mm), F_X11_hit x p' y n' σ = some (r, σ1) ∧ F_X12_hit x p' y n' σ1 = some (r, σ2) ∧ Iv h σ2 := by
  obtain ⟨D, hC, hM, hW⟩ := id hI.2.2.2.2.2
  have oP := okP_of hI.1
  have h60 := hW.2.1
  have h5 := hW.2.2.2.2.1
  have hpl : f_X11_isPlace p' σ = if 0 ≤ p' ∧ p' < nI (dN D 4) then 1 else 0 := by
    unfold f_X11_isPlace
    rw [hC.1.2.2.2.2.1]
    generalize nI (dN D 4) = z
    clear hI hC hM hW
    grind
  by_cases hv : (0 ≤ p' ∧ p' < nI (dN D 4)) ∧ (0 ≤ y ∧ y ≤ 5000) ∧ (0 ≤ n' ∧ n' ≤ nI (dN D 1))
  · obtain ⟨v1, v2, v3⟩ := hv
    obtain ⟨n, hn, rfl⟩ := known_nat (by omega) v3
    obtain ⟨p, hp, rfl⟩ := thing_nat (by omega) v1
    have hB : CB D σ := ⟨hI.1, hC⟩
    by_cases hx : 0 ≤ x ∧ x < 196
    · obtain ⟨l, hl, rfl⟩ : ∃ l : Nat, l < 196 ∧ x = nI l := thing_nat (F := 196) (by omega) hx
      obtain ⟨-, -, -, -, -, -, d7, d8, -, -⟩ := nI14 hl
      refine q_call hI fr_X11_hit rfl (if isL D n l = true then (if HB D y (lDeg D n l) (nI (dN D 6)) true &&& ((1 : Int32) <<< (nI p &&& 31)) = 0 then (if HB D y (lDeg D n l) (nI (dN D 6)) false &&& ((1 : Int32) <<< (nI p &&& 31)) = 0 then 0 else 1) else 2) else -1) ?_ (fun _ => fr_X12_hit) rfl (fun σ1 f1 => ?_)
      · unfold F_X11_hit
        rw [if_pos oP, hpl, if_pos v1, if_neg ne10, isYearC, if_pos v2, if_neg ne10, isKnownC (s := 0) hC.2.2.2.2.2.2.2, if_pos v3, if_neg ne10]
        refine Ok_V ((s_know hW hn hC).frV fr_X2_know) (fun τ hτ => ?_)
        obtain ⟨hG, f⟩ := hτ
        have hB1 : CB D τ := hB.fr (f.sub rfl)
        unfold F_X11_hit_43
        rw [s_joins hW hl hG, bnd_s]
        unfold F_X11_hit_51
        cases hL : isL D n l with
        | false => exact Ok_t rfl (Ok_r rfl)
        | true =>
          refine Ok_f (by decide) (Ok_t (okP_of hB1.1) (Ok_V ((s_watch hW hB1.2 hB1.1.2.2.2.2).frV fr_X6_watch) (fun υ hυ => ?_)))
          obtain ⟨hS, f2⟩ := hυ
          have hB2 : CB D υ := hB1.fr (f2.sub rfl)
          unfold F_X11_hit_68
          rw [s_bearingOf hW hn hl (hG.fr f2 rfl) hL, bnd_s]
          unfold F_X11_hit_76
          refine Ok_t (okP_of hB2.1) ?_
          rw [hB2.2.1.1, s_struck hW (lDeg_in hW hn hL) hS, bnd_s]
          unfold F_X11_hit_100 F_X11_hit_125
          rw [show decide ((1 : Int32) ≠ 0) = true from by decide, if_pos rfl]
          by_cases c1 : HB D y (lDeg D n l) (nI (dN D 6)) true &&& ((1 : Int32) <<< (nI p &&& 31)) = 0
          · rw [if_pos c1]
            refine Ok_t (okP_of hB2.1) ?_
            rw [hB2.2.1.1, s_struck hW (lDeg_in hW hn hL) hS, bnd_s, show decide ((0 : Int32) ≠ 0) = false from by decide]
            by_cases c2 : HB D y (lDeg D n l) (nI (dN D 6)) false &&& ((1 : Int32) <<< (nI p &&& 31)) = 0
            · rw [if_pos c2]; exact Ok_r (by rw [if_pos c1, if_pos c2])
            · rw [if_neg c2]; exact Ok_r (by rw [if_pos c1, if_neg c2])
          · rw [if_neg c1]; exact Ok_r (by rw [if_neg c1])
      · have hM1 : RM σ1 0 D := hM.fr (f1.sub rfl)
        have hx2 : 0 ≤ nI l ∧ nI l ≤ 195 := ⟨hx.1, nI_le (b := 195) (by omega) (by decide)⟩
        unfold F_X12_hit F_X12_hit_38
        simp only [isInM, ite10]
        rw [if_neg (not_not_intro hx2), if_neg (nI_pos (by omega)), if_pos (show inb 0 5 = true by decide), c0, hM1.1.2.2.2.2.1, if_neg (nI_ge (by omega) (by omega)), isYearM, if_pos v2, if_neg ne10, isKnownM hM1, bnd_s, if_pos v3, if_neg ne10]
        refine Ok_V ((s_lay hW hn hM1).frV fr_X12_lay) (fun τ hτ => ?_)
        obtain ⟨hY, f⟩ := hτ
        have hM2 : RM τ 0 D := hM1.fr (f.sub rfl)
        unfold F_X12_hit_49
        refine Ok_V ((s_laySky hW hM2).frV fr_X12_laySky) (fun υ hυ => ?_)
        obtain ⟨hS, f2⟩ := hυ
        have hM3 : RM υ 0 D := hM2.fr (f2.sub rfl)
        obtain ⟨y1, y2, y3⟩ := (hY.my.fr f2 rfl) l hl
        unfold F_X12_hit_54
        refine Ok_t d8 ?_
        rw [d7, y1]
        cases hL : isL D n l with
        | false => exact Ok_t rfl (Ok_r rfl)
        | true =>
          refine Ok_f (by decide) (Ok_t d8 (Ok_t (by decide) ?_))
          rw [c0, hM3.1.1, y3 hL, s_hitBy hW hM3 hS, bnd_s]
          unfold F_X12_hit_82 F_X12_hit_109
          rw [d7, show decide ((1 : Int32) ≠ 0) = true from by decide, if_pos rfl, c0, hM3.1.1, y3 hL]
          obtain ⟨z, hz, ez⟩ := HB_nat hW (y := y) (w := lDeg D n l) (c := nI (dN D 6)) (su := true)
          obtain ⟨z', hz', ez'⟩ := HB_nat hW (y := y) (w := lDeg D n l) (c := nI (dN D 6)) (su := false)
          rw [ez, ez']
          rcases bit_at p (by omega) z hz with ⟨b1, b2⟩ | ⟨b1, b2⟩
          · rw [if_pos b1, b2]
            refine Ok_f (by decide) (Ok_t d8 (Ok_t (by decide) ?_))
            rw [s_hitBy hW hM3 hS, bnd_s, show decide ((0 : Int32) ≠ 0) = false from by decide, ez']
            rcases bit_at p (by omega) z' hz' with ⟨b3, b4⟩ | ⟨b3, b4⟩
            · rw [if_pos b3]; exact Ok_r b4
            · rw [if_neg b3]; exact Ok_r b4
          · rw [if_neg b1, b2]
            exact Ok_t rfl (Ok_r rfl)
    · refine q_call hI fr_X11_hit rfl (-1) ?_ (fun _ => fr_X12_hit) rfl (fun σ1 f1 => ?_)
      · unfold F_X11_hit
        rw [if_pos oP, hpl, if_pos v1, if_neg ne10, isYearC, if_pos v2, if_neg ne10, isKnownC (s := 0) hC.2.2.2.2.2.2.2, if_pos v3, if_neg ne10]
        refine Ok_V (s_know hW hn hC) (fun τ hτ => ?_)
        unfold F_X11_hit_43
        rw [s_joinsN hx, bnd_s]
        unfold F_X11_hit_51
        exact Ok_t rfl (Ok_r rfl)
      · unfold F_X12_hit
        simp only [isInM, ite10]
        rw [if_pos (fun z => hx ⟨z.1, by have := z.2; clear hI hC hM hW f1 v1 v2 v3 hx z hpl hB; grind⟩)]
        exact Ok_r rfl
  · refine ⟨-1, σ, σ, ?_, ?_, hI⟩
    · unfold F_X11_hit
      rw [if_pos oP, hpl, isYearC, isKnownC (s := 0) hC.2.2.2.2.2.2.2]
      by_cases v1 : 0 ≤ p' ∧ p' < nI (dN D 4)
      · rw [if_pos v1, if_neg ne10]
        by_cases v2 : 0 ≤ y ∧ y ≤ 5000
        · rw [if_pos v2, if_neg ne10, if_neg (fun z => hv ⟨v1, v2, z⟩), if_pos rfl]
        · rw [if_neg v2, if_pos rfl]
      · rw [if_neg v1, if_pos rfl]
    · unfold F_X12_hit F_X12_hit_38
      simp only [isInM, ite10]
      rw [if_pos (show inb 0 5 = true by decide), c0, hM.1.2.2.2.2.1, isYearM, isKnownM hM, bnd_s]
      by_cases c : 0 ≤ x ∧ x ≤ 195
      · rw [if_neg (not_not_intro c)]
        by_cases p0 : p' < 0
        · rw [if_pos p0]
        rw [if_neg p0]
        by_cases p1 : nI (dN D 4) ≤ p'
        · rw [if_pos p1]
        rw [if_neg p1]
        by_cases v2 : 0 ≤ y ∧ y ≤ 5000
        · rw [if_pos v2, if_neg ne10, if_neg (fun z => hv ⟨⟨by clear hI hC hM hW hpl hv z v2 c; grind, by clear hI hC hM hW hpl hv z v2 c; grind⟩, v2, z⟩), if_pos rfl]
        · rw [if_neg v2, if_pos rfl]
      · rw [if_pos c]
/-- the i-th that has a property -/
def fnd (q : Nat → Bool) : List Nat → Nat → Int32
  | [], _ => -1
  | x :: r, i => if q x then (if i = 0 then nI x else fnd q r (i - 1)) else fnd q r i
/-- those chosen in the last k numbers -/
def tL (D : DD) (n : Nat) (ρ : Int32) : Nat → List Nat
  | 0 => []
  | k + 1 => (if isL D n (195 - k) && hRule D n (195 - k) ρ then [195 - k] else []) ++ tL D n ρ k
theorem tL_Ls {D : DD} {n : Nat} {ρ : Int32} : ∀ k, k ≤ 196 → Ls D n ρ (196 - k) ++ tL D n ρ k = Ls D n ρ 196 := by
  intro k
  induction k with
  | zero => intro _; exact List.append_nil _
  | succ k ih =>
    intro hk
    have i1 := ih (by omega)
    rw [show 196 - k = 196 - (k + 1) + 1 by omega, Ls_s, show 196 - (k + 1) = 195 - k by omega, List.append_assoc] at i1
    rw [show 196 - (k + 1) = 195 - k by omega]
    exact i1
theorem hitAt_32 {D : DD} (hW : WF D) {n i : Nat} {y set s : Int32} {σ : Mm} (hn : n ≤ dN D 1) (hi : i < 2147483648) (hB : CB D σ) (hS : SW D y (dN D 4) σ) (hc : GCh D n (-1) 196 σ) : ∀ (m k a : Nat), (Ls D n (-1) 196).length - k < m → k ≤ (Ls D n (-1) 196).length → a ≤ i → a ≤ k →
    F_X11_hitAt_32 m set s (nI i) (nI a) (nI k) σ = some (fnd (fun x => str D y (lDeg D n x) set (decide (s ≠ 0))) ((Ls D n (-1) 196).drop k) (i - a), σ) := by
  have hlen := Ls_len (D := D) (n := n) (ρ := -1) 196 (Nat.le_refl _)
  intro m
  induction m with
  | zero => intro k a h; omega
  | succ m ih =>
    intro k a hm hk ha hak
    change B_X11_hitAt_32 (F_X11_hitAt_32 m) _ _ _ _ _ _ = _
    unfold B_X11_hitAt_32
    rw [hc.1]
    by_cases hd : (Ls D n (-1) 196).length ≤ k
    · rw [if_pos (nI_le hd (by omega)), List.drop_of_length_le hd]; rfl
    have hk2 : k < (Ls D n (-1) 196).length := by omega
    have hx : (Ls D n (-1) 196)[k]? = some (Ls D n (-1) 196)[k] := List.getElem?_eq_getElem hk2
    have hdrop : (Ls D n (-1) 196).drop k = (Ls D n (-1) 196)[k] :: (Ls D n (-1) 196).drop (k + 1) := List.drop_eq_getElem_cons hk2
    rw [hdrop]
    generalize (Ls D n (-1) 196)[k] = x at hx
    obtain ⟨-, hL, -⟩ := Ls_mem hx
    have hck : (nI k).toNatClampNeg = k := nI_clamp (by omega)
    have i182 : inb (nI k) 182 = true := by
      have : k < 182 := by omega
      clear ih hc hS hB hW hx hL hdrop; grind [gI, gB, gC]
    rw [if_neg (nI_ge (by omega) (by omega)), if_pos i182, hck, (hc.2 k x hx).2, s_strikes hW (lDeg_in hW hn hL) hB hS, bnd_s]
    unfold F_X11_hitAt_60 F_X11_hitAt_84
    rw [nI_1, nI_1, hck, (hc.2 k x hx).1]
    unfold fnd
    cases hst : str D y (lDeg D n x) set (decide (s ≠ 0)) with
    | false =>
      rw [if_pos (by decide)]
      simp only [hst, Bool.false_eq_true, if_false]
      exact ih (k + 1) a (by omega) (by omega) ha (by omega)
    | true =>
      rw [if_neg (by decide)]
      simp only [hst, if_true]
      by_cases e : a = i
      · subst e
        rw [if_pos rfl, if_pos i182, if_pos (by omega)]
      · rw [if_neg (fun z => e ((nI_eq (by omega) (by omega)).mp z)), if_neg (by omega)]
        have := ih (k + 1) (a + 1) (by omega) (by omega) (by omega) (by omega)
        rw [show i - (a + 1) = i - a - 1 by omega] at this
        exact this
theorem hitAt_26 {D : DD} (hW : WF D) {n i : Nat} {y set s : Int32} {σ : Mm} (hn : n ≤ dN D 1) (hi : i < 2147483648) (hM : RM σ 0 D) (hS : LSk D y (dN D 4) σ) (hY : MY D n (-1) σ) : ∀ (m l a : Nat), 196 - l < m → l ≤ 196 → a ≤ i → a ≤ l →
    F_X12_hitAt_26 m set s (nI i) (nI a) (nI l) σ = some (fnd (fun x => str D y (lDeg D n x) set (decide (s ≠ 0))) (tL D n (-1) (196 - l)) (i - a), σ) := by
  intro m
  induction m with
  | zero => intro l a h; omega
  | succ m ih =>
    intro l a hm hl ha hal
    change B_X12_hitAt_26 (F_X12_hitAt_26 m) _ _ _ _ _ _ = _
    unfold B_X12_hitAt_26 F_X12_hitAt_83
    by_cases hd : 196 ≤ l
    · have e : l = 196 := by omega
      subst e
      rw [if_pos (by decide)]; rfl
    have hl2 : l < 196 := by omega
    obtain ⟨-, -, -, -, -, -, d7, d8, -, -⟩ := nI14 hl2
    obtain ⟨-, y2, y3⟩ := hY l hl2
    rw [if_neg (show ¬ (196 : Int32) ≤ nI l from nI_ge (b := 196) (by omega) (by decide)), if_pos d8, d7, y2, nI_1, show 196 - l = (195 - l) + 1 by omega]
    have et : tL D n (-1) ((195 - l) + 1) = (if isL D n l && hRule D n l (-1) then [l] else []) ++ tL D n (-1) (196 - (l + 1)) := by
      show (if isL D n (195 - (195 - l)) && hRule D n (195 - (195 - l)) (-1) then [195 - (195 - l)] else []) ++ tL D n (-1) (195 - l) = _
      rw [show 195 - (195 - l) = l by omega, show 195 - l = 196 - (l + 1) by omega]
    rw [et]
    cases hc : (isL D n l && hRule D n l (-1)) with
    | false =>
      rw [if_pos (by decide)]
      simp only [Bool.false_eq_true, if_false, List.nil_append]
      exact ih (l + 1) a (by omega) (by omega) ha (by omega)
    | true =>
      have hL : isL D n l = true := by
        simp only [Bool.and_eq_true] at hc; exact hc.1
      rw [if_neg (by decide), if_pos d8, if_pos (show inb 0 5 = true by decide), c0, hM.1.1, y3 hL, s_hitBy hW hM hS, bnd_s]
      unfold F_X12_hitAt_62 F_X12_hitAt_83
      rw [nI_1, nI_1]
      simp only [if_true, List.singleton_append]
      unfold fnd
      unfold str
      by_cases hh : HB D y (lDeg D n l) (nI (dN D 6)) (decide (s ≠ 0)) &&& set = 0
      · rw [if_pos hh, if_neg (by rw [decide_eq_false (not_not_intro hh)]; decide)]
        exact ih (l + 1) a (by omega) (by omega) ha (by omega)
      · rw [if_neg hh, decide_eq_true (p := HB D y (lDeg D n l) (nI (dN D 6)) (decide (s ≠ 0)) &&& set ≠ 0) hh, if_pos (rfl : true = true)]
        by_cases e : a = i
        · subst e
          rw [if_pos rfl, if_pos (by omega)]
        · rw [if_neg (fun z => e ((nI_eq (by omega) (by omega)).mp z)), if_neg (by omega)]
          have := ih (l + 1) (a + 1) (by omega) (by omega) (by omega) (by omega)
          rw [show i - (a + 1) = i - a - 1 by omega] at this
          exact this
theorem hitAt_26n {D : DD} (hW : WF D) {n : Nat} {y set s x : Int32} {σ : Mm} (hx : x < 0) (hn : n ≤ dN D 1) (hM : RM σ 0 D) (hS : LSk D y (dN D 4) σ) (hY : MY D n (-1) σ) : ∀ (m l a : Nat), 196 - l < m → l ≤ 196 → a ≤ l → F_X12_hitAt_26 m set s x (nI a) (nI l) σ = some (-1, σ) := by
  intro m
  induction m with
  | zero => intro l a h; omega
  | succ m ih =>
    intro l a hm hl hal
    change B_X12_hitAt_26 (F_X12_hitAt_26 m) _ _ _ _ _ _ = _
    unfold B_X12_hitAt_26 F_X12_hitAt_83
    by_cases hd : 196 ≤ l
    · have e : l = 196 := by omega
      subst e
      rw [if_pos (by decide)]
    have hl2 : l < 196 := by omega
    obtain ⟨-, -, -, -, -, -, d7, d8, -, -⟩ := nI14 hl2
    obtain ⟨-, y2, y3⟩ := hY l hl2
    rw [if_neg (show ¬ (196 : Int32) ≤ nI l from nI_ge (b := 196) (by omega) (by decide)), if_pos d8, d7, y2, nI_1]
    have i0 := ih (l + 1) a (by omega) (by omega) (by omega)
    have i1 := ih (l + 1) (a + 1) (by omega) (by omega) (by omega)
    cases hc : (isL D n l && hRule D n l (-1)) with
    | false => rw [if_pos (by decide)]; exact i0
    | true =>
      have hL : isL D n l = true := by
        simp only [Bool.and_eq_true] at hc; exact hc.1
      rw [if_neg (by decide), if_pos d8, if_pos (show inb 0 5 = true by decide), c0, hM.1.1, y3 hL, s_hitBy hW hM hS, bnd_s]
      unfold F_X12_hitAt_62 F_X12_hitAt_83
      rw [nI_1, nI_1]
      by_cases hh : HB D y (lDeg D n l) (nI (dN D 6)) (decide (s ≠ 0)) &&& set = 0
      · rw [if_pos hh]; exact i0
      · rw [if_neg hh, if_neg]
        · exact i1
        · intro z
          have := nI_pos' (n := a) (by omega)
          rw [z] at this
          clear i0 i1 ih hM hS hY hW; grind
theorem p_hitAt {h : Nat → Bool} {σ : Mm} (hI : Iv h σ) (set y b n' x : Int32) : ∃ (r : Int32) (σ1 : Mm) (σ2 : Mm), F_X11_hitAt set y b n' x σ = some (r, σ1) ∧ F_X12_hitAt set y b n' x σ1 = some (r, σ2) ∧ Iv h σ2 := by
  obtain ⟨D, hC, hM, hW⟩ := id hI.2.2.2.2.2
  have oP := okP_of hI.1
  have h60 := hW.2.1
  have hB : CB D σ := ⟨hI.1, hC⟩
  by_cases v1 : asK D set y n'
  · obtain ⟨n, hn, rfl⟩ := known_nat (by omega) v1.2.2
    by_cases hx : 0 ≤ x
    · obtain ⟨i, hi, rfl⟩ : ∃ i : Nat, i < 2147483648 ∧ x = nI i := ⟨x.toNatClampNeg, (gC x hx).2, (gC x hx).1⟩
      refine q_call hI fr_X11_hitAt rfl (fnd (fun x => str D y (lDeg D n x) set (decide (b ≠ 0))) (Ls D n (-1) 196) i) ?_ (fun _ => fr_X12_hitAt) rfl (fun σ1 f1 => ?_)
      · unfold F_X11_hitAt F_X11_hitAt_26
        rw [if_pos oP, if_neg (fun z => (askedC hC).mp z v1), if_pos hx]
        refine Ok_V ((s_lookAt hW (Or.inl rfl) hn hB).frV fr_X11_lookAt) (fun τ hτ => ?_)
        obtain ⟨⟨-, hc, hS⟩, f⟩ := hτ
        have := hitAt_32 (set := set) (s := b) (i := i) hW hn hi (hB.fr (f.sub rfl)) hS hc FU 0 0 (by have := Ls_len (D := D) (n := n) (ρ := -1) 196 (Nat.le_refl _); show _ < 1000000; omega) (by omega) (by omega) (by omega)
        rw [Nat.sub_zero, List.drop_zero] at this
        exact ⟨_, this, rfl⟩
      · have hM1 : RM σ1 0 D := hM.fr (f1.sub rfl)
        unfold F_X12_hitAt F_X12_hitAt_8 F_X12_hitAt_20
        rw [isSetM hM1 v1, bnd_s, if_neg ne10]
        refine Ok_V ((s_layAll hW hn hM1).frV fr_X12_layAll) (fun τ hτ => ?_)
        obtain ⟨⟨hY, hS⟩, f⟩ := hτ
        have := hitAt_26 (set := set) (s := b) (i := i) hW hn hi (hM1.fr (f.sub rfl)) hS hY.my FU 0 0 (by show _ < 1000000; omega) (by omega) (by omega) (by omega)
        have e : tL D n (-1) 196 = Ls D n (-1) 196 := by
          have e0 := tL_Ls (D := D) (n := n) (ρ := -1) 196 (by omega)
          rw [Nat.sub_self, show Ls D n (-1) 0 = [] from rfl, List.nil_append] at e0
          exact e0
        rw [show 196 - 0 = 196 from rfl, e, Nat.sub_zero] at this
        exact ⟨_, this, rfl⟩
    · refine q_call hI fr_X11_hitAt rfl (-1) ?_ (fun _ => fr_X12_hitAt) rfl (fun σ1 f1 => ?_)
      · unfold F_X11_hitAt
        rw [if_pos oP, if_neg (fun z => (askedC hC).mp z v1), if_neg hx]
        exact Ok_r rfl
      · have hM1 : RM σ1 0 D := hM.fr (f1.sub rfl)
        unfold F_X12_hitAt F_X12_hitAt_8 F_X12_hitAt_20
        rw [isSetM hM1 v1, bnd_s, if_neg ne10]
        refine Ok_V ((s_layAll hW hn hM1).frV fr_X12_layAll) (fun τ hτ => ?_)
        obtain ⟨⟨hY, hS⟩, f⟩ := hτ
        have hx0 : x < 0 := by clear hI hC hM hW hB v1 f1 hM1 hY hS f; grind
        exact ⟨_, hitAt_26n (set := set) (s := b) hW hx0 hn (hM1.fr (f.sub rfl)) hS hY.my FU 0 0 (by show _ < 1000000; omega) (by omega) (by omega), rfl⟩
  · refine ⟨-1, σ, σ, ?_, ?_, hI⟩
    · unfold F_X11_hitAt
      rw [if_pos oP, if_pos ((askedC hC).mpr v1)]
    · unfold F_X12_hitAt F_X12_hitAt_8
      rw [isSetMN hM v1, bnd_s, if_pos rfl]
