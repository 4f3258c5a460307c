/-! free and freer -/
def spK (a s k : Int32) : Prop := (0 ≤ a ∧ a ≤ 5000) ∧ (1 ≤ s ∧ s ≤ 100) ∧ (1 ≤ k ∧ k ≤ 200) ∧ a + s * (k - 1) ≤ 5000
theorem span_nn {a s k : Int32} (ha : 0 ≤ a ∧ a ≤ 5000) (hs : 1 ≤ s ∧ s ≤ 100) (hk : 1 ≤ k ∧ k ≤ 200) : 0 ≤ a + s * (k - 1) := by
  obtain ⟨q, hq, rfl⟩ : ∃ q : Nat, q ≤ 100 ∧ s = nI q := ⟨s.toNatClampNeg, by grind [gI, gC], by grind [gI, gC]⟩
  obtain ⟨r, hr, e⟩ : ∃ r : Nat, r ≤ 199 ∧ k - 1 = nI r := ⟨(k - 1).toNatClampNeg, by clear hs ha hq; grind [gI, gC], by clear hs ha hq; grind [gI, gC]⟩
  obtain ⟨b, hb, rfl⟩ : ∃ b : Nat, b ≤ 5000 ∧ a = nI b := ⟨a.toNatClampNeg, by clear hs hk e; grind [gI, gC], by clear hs hk e; grind [gI, gC]⟩
  rw [e, pk_mul, nI_add]
  have : q * r ≤ 100 * 199 := Nat.mul_le_mul hq hr
  exact nI_pos' (by omega)
theorem isYearsC {a s k : Int32} : f_X11_isYears a s k = 0 ↔ ¬ spK a s k := by
  unfold f_X11_isYears
  simp only [isYearC, ite10]
  by_cases h1 : 0 ≤ a ∧ a ≤ 5000
  · rw [if_neg (not_not_intro h1)]
    by_cases h2 : 1 ≤ s ∧ s ≤ 100
    · rw [if_neg (show ¬ s < 1 by grind), if_neg (show ¬ 100 < s by grind)]
      by_cases h3 : 1 ≤ k ∧ k ≤ 200
      · rw [if_neg (show ¬ k < 1 by grind), if_neg (show ¬ 200 < k by grind)]
        have hnn := span_nn h1 h2 h3
        by_cases h4 : a + s * (k - 1) ≤ 5000
        · rw [if_neg (not_not_intro ⟨hnn, h4⟩)]
          exact ⟨fun z => absurd z ne10, fun z => absurd ⟨h1, h2, h3, h4⟩ z⟩
        · rw [if_pos (fun z => h4 z.2)]
          exact ⟨fun _ z => h4 z.2.2.2, fun _ => rfl⟩
      · have : (if k < 1 then (0 : Int32) else if 200 < k then 0 else if ¬ (0 ≤ a + s * (k - 1) ∧ a + s * (k - 1) ≤ 5000) then 0 else 1) = 0 := by
          by_cases c : k < 1
          · rw [if_pos c]
          · rw [if_neg c, if_pos (by grind)]
        rw [this]
        exact ⟨fun _ z => h3 z.2.2.1, fun _ => rfl⟩
    · have : ∀ z : Int32, (if s < 1 then (0 : Int32) else if 100 < s then 0 else z) = 0 := by
        intro z
        by_cases c : s < 1
        · rw [if_pos c]
        · rw [if_neg c, if_pos (by grind)]
      rw [this]
      exact ⟨fun _ z => h2 z.2.1, fun _ => rfl⟩
  · rw [if_pos h1]
    exact ⟨fun _ z => h1 z.1, fun _ => rfl⟩
theorem isSpanM {D : DD} {set a s k n : Int32} {σ : Mm} (hM : RM σ 0 D) (h1 : asK D set a n) (h2 : spK a s k) : F_X12_isSpan set n a s k σ = some (1, σ) := by
  obtain ⟨-, q2, q3, q4⟩ := h2
  unfold F_X12_isSpan F_X12_isSpan_7
  rw [isSetM hM h1, bnd_s, if_neg ne10]
  simp only [isInM, ite10]
  rw [if_neg (not_not_intro q2), if_neg (not_not_intro q3), if_neg (by generalize a + s * (k - 1) = z at *; clear hM h1 q2 q3; grind)]
theorem isSpanMN {D : DD} {set a s k n : Int32} {σ : Mm} (hM : RM σ 0 D) (h : ¬ (asK D set a n ∧ spK a s k)) : F_X12_isSpan set n a s k σ = some (0, σ) := by
  unfold F_X12_isSpan F_X12_isSpan_7
  by_cases h1 : asK D set a n
  · rw [isSetM hM h1, bnd_s, if_neg ne10]
    simp only [isInM, ite10]
    by_cases q2 : 1 ≤ s ∧ s ≤ 100
    · rw [if_neg (not_not_intro q2)]
      by_cases q3 : 1 ≤ k ∧ k ≤ 200
      · rw [if_neg (not_not_intro q3)]
        by_cases q4 : a + s * (k - 1) ≤ 5000
        · exact absurd ⟨h1, h1.2.1, q2, q3, q4⟩ h
        · rw [if_pos (by generalize a + s * (k - 1) = z at *; clear hM h1 q2 q3 h; grind)]
      · rw [if_pos q3]
    · rw [if_pos q2]
  · rw [isSetMN hM h1, bnd_s, if_pos rfl]
/-- the class: a YEAR looked at, HITS told -/
theorem s_hitsIn {D : DD} (hW : WF D) {n : Nat} {ρ y set : Int32} {σ : Mm} (hn : n ≤ dN D 1) (hB : CB D σ) (hc : GCh D n ρ 196 σ) : Ok (F_X11_hitsIn set y σ) (fun q => q.1 = nI (hN D n ρ y set 0 false)) := by
  unfold F_X11_hitsIn F_X11_hitsIn_12 F_X11_hitsIn_17
  refine Ok_t (okP_of hB.1) (Ok_V ((s_watch hW hB.2 hB.1.2.2.2.2).frV fr_X6_watch) (fun τ hτ => ?_))
  obtain ⟨hS, f⟩ := hτ
  rw [s_hitsNow hW hn (hB.fr (f.sub rfl)) hS (hc.fr f rfl), bnd_s]
  exact Ok_r rfl
/-- the most HITS so far, and the first YEAR with so many -/
def fG (D : DD) (n : Nat) (set a s : Int32) : Nat → Int32 × Int32
  | 0 => (-1, -1)
  | i + 1 => if (fG D n set a s i).1 < nI (hN D n (-1) (a + s * nI i) set 0 false) then (nI (hN D n (-1) (a + s * nI i) set 0 false), a + s * nI i) else fG D n set a s i
theorem free_39 {D : DD} (hW : WF D) {n q : Nat} {set a s : Int32} (hn : n ≤ dN D 1) (hq : q ≤ 200) (hq1 : 1 ≤ q) : ∀ (m i : Nat) (x : Int32) (σ : Mm), q - i < m → i ≤ q → (i = 0 ∨ x = (fG D n set a s i).2) → CB D σ → GCh D n (-1) 196 σ → Ok (F_X11_free_39 m set a s (nI q) (fG D n set a s i).1 x (nI i) σ) (fun r => r.1 = (fG D n set a s q).2) := by
  intro m
  induction m with
  | zero => intro i x σ h; omega
  | succ m ih =>
    intro i x σ hm hi hx hB hc
    change Ok (B_X11_free_39 (F_X11_free_39 m) _ _ _ _ _ _ _ _) _
    unfold B_X11_free_39
    by_cases hd : q ≤ i
    · have e : i = q := by omega
      subst e
      exact Ok_t (nI_le hd (by omega)) (Ok_r (hx.resolve_left (by omega)))
    refine Ok_f (nI_ge (by omega) (by omega)) ?_
    rw [Int32.mul_comm (nI i) s]
    refine Ok_B ((s_hitsIn hW hn hB hc).frI fr_X11_hitsIn) (fun v τ hv => ?_)
    obtain ⟨hv, f⟩ := hv
    have hv : v = nI (hN D n (-1) (a + s * nI i) set 0 false) := hv
    have f : Fr W_X11_hitsIn σ τ := f
    unfold F_X11_free_58 F_X11_free_80
    rw [nI_1, Int32.mul_comm (nI i) s]
    have e : fG D n set a s (i + 1) = if (fG D n set a s i).1 < v then (v, a + s * nI i) else fG D n set a s i := by rw [hv]; rfl
    by_cases c : v ≤ (fG D n set a s i).1
    · have nc : ¬ (fG D n set a s i).1 < v := by
        generalize (fG D n set a s i).1 = z at *
        clear ih hB hc hW f e hx hv; grind
      rw [if_neg nc] at e
      have hi0 : i ≠ 0 := by
        intro z
        subst z
        rw [hv] at c
        have h1 : 0 ≤ nI (hN D n (-1) (a + s * nI 0) set 0 false) := nI_pos' (by have := hN_le (D := D) (n := n) (ρ := -1) (y := a + s * nI 0) (set := set) (t := 0) (su := false); omega)
        have h2 : nI (hN D n (-1) (a + s * nI 0) set 0 false) ≤ -1 := c
        generalize nI (hN D n (-1) (a + s * nI 0) set 0 false) = z at *
        clear ih hB hc hW f e hx hv nc; grind
      refine Ok_t c ?_
      have := ih (i + 1) x τ (by omega) (by omega) (Or.inr (by rw [e]; exact hx.resolve_left hi0)) (hB.fr (f.sub rfl)) (hc.fr f rfl)
      rw [e] at this
      exact this
    · have nc : (fG D n set a s i).1 < v := by
        generalize (fG D n set a s i).1 = z at *
        clear ih hB hc hW f e hx hv; grind
      rw [if_pos nc] at e
      refine Ok_f c ?_
      have := ih (i + 1) (a + s * nI i) τ (by omega) (by omega) (Or.inr (by rw [e])) (hB.fr (f.sub rfl)) (hc.fr f rfl)
      rw [e] at this
      exact this
theorem free_30 {D : DD} (hW : WF D) {n q : Nat} {set a s : Int32} (hn : n ≤ dN D 1) (hq : q ≤ 200) : ∀ (m i : Nat) (σ : Mm), q - i < m → i ≤ q → RM σ 0 D → MY D n (-1) σ → Ok (F_X12_free_30 m set a s (nI q) (fG D n set a s i).1 (fG D n set a s i).2 (nI i) σ) (fun r => r.1 = (fG D n set a s q).2) := by
  intro m
  induction m with
  | zero => intro i σ h; omega
  | succ m ih =>
    intro i σ hm hi hM hY
    change Ok (B_X12_free_30 (F_X12_free_30 m) _ _ _ _ _ _ _ _) _
    unfold B_X12_free_30
    by_cases hd : q ≤ i
    · have e : i = q := by omega
      subst e
      exact Ok_t (nI_le hd (by omega)) (Ok_r rfl)
    refine Ok_f (nI_ge (by omega) (by omega)) (Ok_V ((s_laySky hW hM).frV fr_X12_laySky) (fun τ hτ => ?_))
    obtain ⟨hS, f⟩ := hτ
    unfold F_X12_free_48
    rw [s_hitsOf hW hn ⟨by decide, by decide⟩ (hM.fr (f.sub rfl)) hS (hY.fr f rfl), bnd_s]
    unfold F_X12_free_55 F_X12_free_80
    rw [nI_1]
    have e : fG D n set a s (i + 1) = if (fG D n set a s i).1 < nI (hN D n (-1) (a + s * nI i) set 0 false) then (nI (hN D n (-1) (a + s * nI i) set 0 false), a + s * nI i) else fG D n set a s i := rfl
    have i1 := ih (i + 1) τ (by omega) (by omega) (hM.fr (f.sub rfl)) (hY.fr f rfl)
    have ed : decide ((0 : Int32) ≠ 0) = false := by decide
    rw [ed]
    by_cases c : (fG D n set a s i).1 < nI (hN D n (-1) (a + s * nI i) set 0 false)
    · rw [if_pos c] at e
      rw [e] at i1
      exact Ok_t c i1
    · rw [if_neg c] at e
      rw [e] at i1
      exact Ok_f c i1
theorem p_free {h : Nat → Bool} {σ : Mm} (hI : Iv h σ) (set n' a s k : Int32) : ∃ (r : Int32) (σ1 : Mm) (σ2 : Mm), F_X11_free set n' a s k σ = some (r, σ1) ∧ F_X12_free set n' a s k σ1 = some (r, σ2) ∧ Iv h σ2 := by
  obtain ⟨D, hC, hM, hW⟩ := id hI.2.2.2.2.2
  have oP := okP_of hI.1
  have h60 := hW.2.1
  by_cases hv : asK D set a n' ∧ spK a s k
  · obtain ⟨v1, v2⟩ := hv
    obtain ⟨n, hn, rfl⟩ := known_nat (by omega) v1.2.2
    obtain ⟨q, hq, hq1, rfl⟩ : ∃ q : Nat, q ≤ 200 ∧ 1 ≤ q ∧ k = nI q := by
      have := v2.2.2.1
      clear hI hC hM hW v1 v2
      exact ⟨k.toNatClampNeg, by grind [gI, gC], by grind [gI, gC], by grind [gI, gC]⟩
    refine q_call hI fr_X11_free rfl (fG D n set a s q).2 ?_ (fun _ => fr_X12_free) rfl (fun σ1 f1 => ?_)
    · unfold F_X11_free F_X11_free_30
      have hB : CB D σ := ⟨hI.1, hC⟩
      rw [if_pos oP, if_neg (fun z => (askedC hC).mp z v1), if_neg (fun z => isYearsC.mp z v2)]
      refine Ok_V ((s_lookAt hW (Or.inl rfl) hn hB).frV fr_X11_lookAt) (fun τ hτ => ?_)
      obtain ⟨⟨-, hc, -⟩, f⟩ := hτ
      exact free_39 hW (set := set) (a := a) (s := s) hn hq hq1 FU 0 a τ (by show _ < 1000000; omega) (by omega) (Or.inl rfl) (hB.fr (f.sub rfl)) hc
    · have hM1 : RM σ1 0 D := hM.fr (f1.sub rfl)
      unfold F_X12_free F_X12_free_11 F_X12_free_21
      rw [isSpanM hM1 v1 v2, bnd_s, if_neg ne10]
      refine Ok_V ((s_lay hW hn hM1).frV fr_X12_lay) (fun τ hτ => ?_)
      obtain ⟨hY, f⟩ := hτ
      exact free_30 hW (set := set) (a := a) (s := s) hn hq FU 0 τ (by show _ < 1000000; omega) (by omega) (hM1.fr (f.sub rfl)) hY.my
  · refine ⟨-1, σ, σ, ?_, ?_, hI⟩
    · unfold F_X11_free
      rw [if_pos oP]
      by_cases v1 : asK D set a n'
      · rw [if_neg (fun z => (askedC hC).mp z v1), if_pos (isYearsC.mpr (fun z => hv ⟨v1, z⟩))]
      · rw [if_pos ((askedC hC).mpr v1)]
    · unfold F_X12_free F_X12_free_11
      rw [isSpanMN hM hv, bnd_s, if_pos rfl]
/-- how many of the YEARS have so many HITS -/
def fQ (D : DD) (n d : Nat) (set a s : Int32) : Nat → Bool := fun i => decide (d ≤ hN D n (-1) (a + s * nI i) set 0 false)
theorem freer_45 {D : DD} (hW : WF D) {n q d : Nat} {set a s : Int32} (hn : n ≤ dN D 1) (hq : q ≤ 200) (hd' : d < 1000) : ∀ (m i : Nat) (σ : Mm), q - i < m → i ≤ q → CB D σ → GCh D n (-1) 196 σ → Ok (F_X11_freer_45 m set a s (nI q) (nI d) (nI (cn (fQ D n d set a s) i)) (nI i) σ) (fun r => r.1 = nI (cn (fQ D n d set a s) q)) := by
  intro m
  induction m with
  | zero => intro i σ h; omega
  | succ m ih =>
    intro i σ hm hi hB hc
    change Ok (B_X11_freer_45 (F_X11_freer_45 m) _ _ _ _ _ _ _ _) _
    unfold B_X11_freer_45
    by_cases hd : q ≤ i
    · have e : i = q := by omega
      subst e
      exact Ok_t (nI_le hd (by omega)) (Ok_r rfl)
    refine Ok_f (nI_ge (by omega) (by omega)) ?_
    rw [Int32.mul_comm (nI i) s]
    refine Ok_B ((s_hitsIn hW hn hB hc).frI fr_X11_hitsIn) (fun v τ hv => ?_)
    obtain ⟨hv, f⟩ := hv
    have hv : v = nI (hN D n (-1) (a + s * nI i) set 0 false) := hv
    have f : Fr W_X11_hitsIn σ τ := f
    have hle := hN_le (D := D) (n := n) (ρ := -1) (y := a + s * nI i) (set := set) (t := 0) (su := false)
    unfold F_X11_freer_64 F_X11_freer_72
    rw [nI_1, hv, nI_1]
    have i1 := ih (i + 1) τ (by omega) (by omega) (hB.fr (f.sub rfl)) (hc.fr f rfl)
    have e : cn (fQ D n d set a s) (i + 1) = cn (fQ D n d set a s) i + (if decide (d ≤ hN D n (-1) (a + s * nI i) set 0 false) = true then 1 else 0) := rfl
    rw [e] at i1
    by_cases c : hN D n (-1) (a + s * nI i) set 0 false < d
    · rw [decide_eq_false (by omega)] at i1
      exact Ok_t (nI_lt c (by omega)) i1
    · rw [decide_eq_true (by omega)] at i1
      exact Ok_f (nI_nlt (by omega) (by omega)) i1
theorem freer_46 {D : DD} (hW : WF D) {n q d : Nat} {set a s : Int32} (hn : n ≤ dN D 1) (hq : q ≤ 200) (hd' : d < 1000) : ∀ (m i : Nat) (σ : Mm), q - i < m → i ≤ q → RM σ 0 D → MY D n (-1) σ → Ok (F_X12_freer_46 m set a s (nI q) (nI d) (nI (cn (fQ D n d set a s) i)) (nI i) σ) (fun r => r.1 = nI (cn (fQ D n d set a s) q)) := by
  intro m
  induction m with
  | zero => intro i σ h; omega
  | succ m ih =>
    intro i σ hm hi hM hY
    change Ok (B_X12_freer_46 (F_X12_freer_46 m) _ _ _ _ _ _ _ _) _
    unfold B_X12_freer_46
    by_cases hd : q ≤ i
    · have e : i = q := by omega
      subst e
      exact Ok_t (nI_le hd (by omega)) (Ok_r rfl)
    refine Ok_f (nI_ge (by omega) (by omega)) (Ok_V ((s_laySky hW hM).frV fr_X12_laySky) (fun τ hτ => ?_))
    obtain ⟨hS, f⟩ := hτ
    have hle := hN_le (D := D) (n := n) (ρ := -1) (y := a + s * nI i) (set := set) (t := 0) (su := false)
    unfold F_X12_freer_64
    rw [s_hitsOf hW hn ⟨by decide, by decide⟩ (hM.fr (f.sub rfl)) hS (hY.fr f rfl), bnd_s]
    unfold F_X12_freer_73 F_X12_freer_83
    have ed : decide ((0 : Int32) ≠ 0) = false := by decide
    rw [ed, nI_1, nI_1, show nI (cn (fQ D n d set a s) i) + 0 = nI (cn (fQ D n d set a s) i) from Int32.add_zero _]
    have i1 := ih (i + 1) τ (by omega) (by omega) (hM.fr (f.sub rfl)) (hY.fr f rfl)
    have e : cn (fQ D n d set a s) (i + 1) = cn (fQ D n d set a s) i + (if decide (d ≤ hN D n (-1) (a + s * nI i) set 0 false) = true then 1 else 0) := rfl
    rw [e] at i1
    by_cases c : hN D n (-1) (a + s * nI i) set 0 false < d
    · rw [decide_eq_false (by omega)] at i1
      exact Ok_t (nI_lt c (by omega)) i1
    · rw [decide_eq_true (by omega)] at i1
      exact Ok_f (nI_nlt (by omega) (by omega)) i1
theorem p_freer {h : Nat → Bool} {σ : Mm} (hI : Iv h σ) (set n' a s k y : Int32) : ∃ (r : Int32) (σ1 : Mm) (σ2 : Mm), F_X11_freer set n' a s k y σ = some (r, σ1) ∧ F_X12_freer set n' a s k y σ1 = some (r, σ2) ∧ Iv h σ2 := by
  obtain ⟨D, hC, hM, hW⟩ := id hI.2.2.2.2.2
  have oP := okP_of hI.1
  have h60 := hW.2.1
  by_cases hv : (asK D set a n' ∧ spK a s k) ∧ (0 ≤ y ∧ y ≤ 5000)
  · obtain ⟨⟨v1, v2⟩, v3⟩ := hv
    have v4 : asK D set y n' := ⟨v1.1, v3, v1.2.2⟩
    obtain ⟨n, hn, rfl⟩ := known_nat (by omega) v1.2.2
    obtain ⟨q, hq, rfl⟩ : ∃ q : Nat, q ≤ 200 ∧ k = nI q := by
      have := v2.2.2.1
      clear hI hC hM hW v1 v2 v3 v4
      exact ⟨k.toNatClampNeg, by grind [gI, gC], by grind [gI, gC]⟩
    have hle := hN_le (D := D) (n := n) (ρ := -1) (y := y) (set := set) (t := 0) (su := false)
    refine q_call hI fr_X11_freer rfl (nI (cn (fQ D n (hN D n (-1) y set 0 false) set a s) q)) ?_ (fun _ => fr_X12_freer) rfl (fun σ1 f1 => ?_)
    · unfold F_X11_freer F_X11_freer_32 F_X11_freer_37
      have hB : CB D σ := ⟨hI.1, hC⟩
      rw [if_pos oP, if_neg (fun z => (askedC hC).mp z v4), if_neg (fun z => isYearsC.mp z v2)]
      refine Ok_V ((s_lookAt hW (Or.inl rfl) hn hB).frV fr_X11_lookAt) (fun τ hτ => ?_)
      obtain ⟨⟨-, hc, hS⟩, f⟩ := hτ
      rw [s_hitsNow hW hn (hB.fr (f.sub rfl)) hS hc, bnd_s]
      exact freer_45 hW (set := set) (a := a) (s := s) hn hq (by omega) FU 0 τ (by show _ < 1000000; omega) (by omega) (hB.fr (f.sub rfl)) hc
    · have hM1 : RM σ1 0 D := hM.fr (f1.sub rfl)
      unfold F_X12_freer F_X12_freer_11 F_X12_freer_31 F_X12_freer_38
      rw [isSpanM hM1 v1 v2, bnd_s, if_neg ne10, isYearM, if_pos v3, if_neg ne10]
      refine Ok_V ((s_layAll hW hn hM1).frV fr_X12_layAll) (fun τ hτ => ?_)
      obtain ⟨⟨hY, hS⟩, f⟩ := hτ
      rw [s_hitsOf hW hn ⟨by decide, by decide⟩ (hM1.fr (f.sub rfl)) hS hY.my, bnd_s, show decide ((0 : Int32) ≠ 0) = false from by decide]
      exact freer_46 hW (set := set) (a := a) (s := s) hn hq (by omega) FU 0 τ (by show _ < 1000000; omega) (by omega) (hM1.fr (f.sub rfl)) hY.my
  · refine ⟨-1, σ, σ, ?_, ?_, hI⟩
    · unfold F_X11_freer
      rw [if_pos oP]
      by_cases v1 : asK D set y n'
      · rw [if_neg (fun z => (askedC hC).mp z v1)]
        by_cases v2 : spK a s k
        · exact absurd ⟨⟨⟨v1.1, v2.1, v1.2.2⟩, v2⟩, v1.2.1⟩ hv
        · rw [if_pos (isYearsC.mpr v2)]
      · rw [if_pos ((askedC hC).mpr v1)]
    · unfold F_X12_freer F_X12_freer_11
      by_cases v1 : asK D set a n' ∧ spK a s k
      · rw [isSpanM hM v1.1 v1.2, bnd_s, if_neg ne10, isYearM, if_neg (fun z => hv ⟨v1, z⟩), if_pos rfl]
      · rw [isSpanMN hM v1, bnd_s, if_pos rfl]
