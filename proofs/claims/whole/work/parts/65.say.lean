/-! say -/
theorem all_and : ∀ p, p ≤ 5 → ∀ z, z < 2 ^ p → nI z &&& (((1 : Int32) <<< (nI p &&& 31)) - 1) = nI z := by decide +kernel
theorem HB_all {D : DD} (hW : WF D) {y w c : Int32} {su : Bool} : HB D y w c su &&& (((1 : Int32) <<< (nI (dN D 4) &&& 31)) - 1) = HB D y w c su := by
  obtain ⟨z, hz, e⟩ := hb_nat (D := D) (y := y) (w := w) (c := c) (su := su) (dN D 4) hW.2.2.2.2.1
  unfold HB
  rw [e]
  exact all_and _ hW.2.2.2.2.1 z hz
def aS (D : DD) : Int32 := ((1 : Int32) <<< (nI (dN D 4) &&& 31)) - 1
def sayV (D : DD) (n l : Nat) (y : Int32) : Int32 :=
  if isL D n l = false then 0 else if hRule D n l (-1) = false then 1 else if HB D y (lDeg D n l) (nI (dN D 6)) false = 0 then 2 else if nI (cn (mq D n (-1) y (aS D)) 360) ≤ 18 then (if (dD D (l / 14) (l % 14) || dD D (l % 14) (l / 14)) = false then 4 else if HB D y (lDeg D n l) (nI (dN D 6)) true = 0 then 5 else 6) else 3
theorem strikes_all {D : DD} (hW : WF D) {y w : Int32} {su : Bool} : (if str D y w (aS D) su = true then (1 : Int32) else 0) = if HB D y w (nI (dN D 6)) su = 0 then 0 else 1 := by
  unfold str aS
  rw [HB_all hW]
  by_cases h : HB D y w (nI (dN D 6)) su = 0
  · rw [decide_eq_false (not_not_intro h), if_pos h]; rfl
  · rw [decide_eq_true (p := _ ≠ (0 : Int32)) h, if_neg h]; rfl
theorem s_many {D : DD} {n : Nat} {ρ y set : Int32} {σ : Mm} (hT : TU D n ρ (dN D 6) y set σ) : F_X10_asManyAsUnturned σ = some (nI (cn (mq D n ρ y set) 360), σ) :=
  many_4 hT FU 0 (by show _ < 1000000; omega) (by omega)
theorem s_asMany {D : DD} (hW : WF D) {n : Nat} {ρ y set : Int32} {σ : Mm} (hn : n ≤ dN D 1) (hM : RM σ 0 D) (hS : LSk D y (dN D 4) σ) (hY : MY D n ρ σ) : F_X12_asMany set σ = some (nI (cn (mq D n ρ y set) 360), σ) := by
  unfold F_X12_asMany F_X12_asMany_7
  have e1 : F_X12_hitsOf set 0 0 σ = some (nI (hN D n ρ y set (nI 0) false), σ) := s_hitsOf (t := 0) (s := 0) hW hn ⟨by decide, by decide⟩ hM hS hY
  have e2 : F_X12_asMany_13 FU set (nI (hN D n ρ y set (nI 0) false)) 0 0 σ = some (nI (cn (mq D n ρ y set) 360), σ) := many_13 (set := set) hW hn hM hS hY FU 0 (by show _ < 1000000; omega) (by omega)
  rw [e1, bnd_s, e2]
theorem sayC {D : DD} (hW : WF D) {n l : Nat} {y : Int32} {σ : Mm} (hn : n ≤ dN D 1) (hl : l < 196) (hB : CB D σ) (hG : GK D n σ) : Ok (F_X11_say_44 (nI l) y (nI n) σ) (fun q => q.1 = sayV D n l y) := by
  unfold F_X11_say_44 F_X11_say_52
  rw [s_joins hW hl hG, bnd_s]
  unfold sayV
  cases hL : isL D n l with
  | false => exact Ok_t rfl (Ok_r rfl)
  | true =>
    rw [if_neg (show ¬ (true = false) by decide)]
    refine Ok_f (by decide) (Ok_t (okP_of hB.1) (Ok_B ((s_holds hW (Or.inl rfl) hn hl hB.2 hG hL).frI fr_X2_holds) (fun v τ hv => ?_)))
    obtain ⟨hv, f⟩ := hv
    have hv : v = if hRule D n l (-1) = true then 1 else 0 := hv
    have f : Fr W_X2_holds σ τ := f
    have hB1 := hB.fr (f.sub rfl)
    have hG1 := hG.fr f rfl
    unfold F_X11_say_70 F_X11_say_88
    rw [hv]
    cases hh : hRule D n l (-1) with
    | false => exact Ok_t rfl (Ok_r rfl)
    | true =>
      rw [if_neg (show ¬ (true = false) by decide)]
      refine Ok_f (by decide) (Ok_t (okP_of hB1.1) ?_)
      rw [s_bearingOf hW hn hl hG1 hL, bnd_s, hB1.2.1.2.2.2.2.1]
      unfold F_X11_say_96 F_X11_say_110
      refine Ok_t (okP_of hB1.1) (Ok_V ((s_watch hW hB1.2 hB1.1.2.2.2.2).frV fr_X6_watch) (fun υ hυ => ?_))
      obtain ⟨hS, f2⟩ := hυ
      have hB2 := hB1.fr (f2.sub rfl)
      have hdeg := lDeg_in hW hn hL
      have ea : ((1 : Int32) <<< (nI (dN D 4) &&& 31)) - 1 = aS D := rfl
      rw [ea, s_strikes hW hdeg hB2 hS, bnd_s, show decide ((0 : Int32) ≠ 0) = false from by decide, strikes_all hW]
      unfold F_X11_say_119
      by_cases c1 : HB D y (lDeg D n l) (nI (dN D 6)) false = 0
      · rw [if_pos c1, if_pos rfl, if_pos c1]; exact Ok_r rfl
      rw [if_neg c1, if_neg (show ¬ (1 : Int32) = 0 by decide), if_neg c1]
      refine Ok_V ((s_turnAll (set := aS D) hW (Or.inl rfl) hn hB2).frV fr_X11_turnAll) (fun φ hφ => ?_)
      obtain ⟨⟨hT, -, -, hK, hS2, -⟩, f3⟩ := hφ
      have hB3 := hB2.fr (f3.sub rfl)
      unfold F_X11_say_133 F_X11_say_140
      rw [s_many hT, bnd_s]
      by_cases c2 : nI (cn (mq D n (-1) y (aS D)) 360) ≤ 18
      · rw [if_pos c2, if_pos c2]
        refine Ok_t (okP_of hB3.1) (Ok_V ((s_describe hW hn hl hK hB3.2.2.2.1 hL).frV fr_X2_describe) (fun ψ hψ => ?_))
        obtain ⟨hD, f4⟩ := hψ
        have hB4 := hB3.fr (f4.sub rfl)
        unfold F_X11_say_159 F_X11_say_186
        rw [show (5 : Int32).toNatClampNeg = 5 from rfl, show (6 : Int32).toNatClampNeg = 6 from rfl, hD 5 (by omega), hD 6 (by omega), ← tr_5, ← tr_6, s_strikes hW hdeg hB4 (hS2.fr f4 rfl), bnd_s, show decide ((1 : Int32) ≠ 0) = true from by decide, strikes_all hW]
        unfold F_X11_say_195
        refine Ok_t (by decide) ?_
        have fin : Ok (if (if HB D y (lDeg D n l) (nI (dN D 6)) true = 0 then (0 : Int32) else 1) = 0 then some ((5 : Int32), ψ) else some ((6 : Int32), ψ)) (fun q => q.1 = if HB D y (lDeg D n l) (nI (dN D 6)) true = 0 then 5 else 6) := by
          by_cases c3 : HB D y (lDeg D n l) (nI (dN D 6)) true = 0
          · simp only [c3, if_true]; exact Ok_r rfl
          · simp only [c3, if_false]; exact Ok_f (by decide) (Ok_r rfl)
        cases d1 : dD D (l / 14) (l % 14) with
        | true => exact Ok_f (by decide) fin
        | false =>
          refine Ok_t rfl (Ok_t (by decide) ?_)
          cases d2 : dD D (l % 14) (l / 14) with
          | true => exact Ok_f (by decide) fin
          | false => exact Ok_t rfl (Ok_r rfl)
      · rw [if_neg c2, if_neg c2]; exact Ok_r rfl
theorem sayM {D : DD} (hW : WF D) {n l : Nat} {y : Int32} {σ : Mm} (hn : n ≤ dN D 1) (hl : l < 196) (hM : RM σ 0 D) (hY : MY D n (-1) σ) (hS : LSk D y (dN D 4) σ) : F_X12_say_34 (nI l) σ = some (sayV D n l y, σ) := by
  obtain ⟨d1, d2, -, -, -, -, d7, d8, -, -⟩ := nI14 hl
  obtain ⟨y1, y2, y3⟩ := hY l hl
  unfold F_X12_say_34
  rw [if_pos d8, d7, y1, y2]
  unfold sayV
  cases hL : isL D n l with
  | false => rw [if_pos (by decide), if_pos rfl]
  | true =>
    rw [if_neg (show ¬ ((if true = true then (1 : Int32) else 0) = 0) by decide), if_pos d8, if_neg (show ¬ (true = false) by decide), Bool.true_and]
    cases hh : hRule D n l (-1) with
    | false => rw [if_pos (by decide), if_pos rfl]
    | true =>
      rw [if_neg (show ¬ ((if true = true then (1 : Int32) else 0) = 0) by decide), if_pos d8, if_neg (show ¬ (true = false) by decide), if_pos (show inb 0 5 = true by decide), c0, hM.1.1, y3 hL, s_hitBy hW hM hS, bnd_s, show decide ((0 : Int32) ≠ 0) = false from by decide]
      unfold F_X12_say_73
      by_cases c1 : HB D y (lDeg D n l) (nI (dN D 6)) false = 0
      · rw [if_pos c1, if_pos c1]
      rw [if_neg c1, if_neg c1, if_pos (show inb 0 5 = true by decide), c0, hM.1.2.2.2.2.1]
      have ea : ((1 : Int32) <<< (nI (dN D 4) &&& 31)) - 1 = aS D := rfl
      rw [ea, s_asMany hW hn hM hS hY, bnd_s]
      unfold F_X12_say_92
      by_cases c2 : nI (cn (mq D n (-1) y (aS D)) 360) ≤ 18
      · have h1 : l / 14 < 14 := by omega
        have h2 : l % 14 < 14 := by omega
        have fin : F_X12_say_131 (nI l) σ = some (if HB D y (lDeg D n l) (nI (dN D 6)) true = 0 then 5 else 6, σ) := by
          unfold F_X12_say_131 F_X12_say_148
          rw [if_pos d8, if_pos (show inb 0 5 = true by decide), d7, c0, hM.1.1, y3 hL, s_hitBy hW hM hS, bnd_s, show decide ((1 : Int32) ≠ 0) = true from by decide]
          by_cases c3 : HB D y (lDeg D n l) (nI (dN D 6)) true = 0
          · rw [if_pos c3, if_pos c3]
          · rw [if_neg c3, if_neg c3]
        rw [if_pos c2, if_pos c2, d2, d1, s_isDoor hW h1 h2 hM, bnd_s]
        unfold F_X12_say_111
        cases q1 : dD D (l / 14) (l % 14) with
        | true => rw [if_neg (show ¬ ((if true = true then (1 : Int32) else 0) = 0) by decide), fin]; rfl
        | false =>
          rw [if_pos (by decide), d2, d1, s_isDoor hW h2 h1 hM, bnd_s]
          unfold F_X12_say_126
          cases q2 : dD D (l % 14) (l / 14) with
          | true => rw [if_neg (show ¬ ((if true = true then (1 : Int32) else 0) = 0) by decide), fin]; rfl
          | false => rw [if_pos (by decide)]; rfl
      · rw [if_neg c2, if_neg c2]
theorem p_say {h : Nat → Bool} {σ : Mm} (hI : Iv h σ) (x y n' : Int32) : ∃ (r : Int32) (σ1 : Mm) (σ2 : Mm), F_X11_say x y n' σ = some (r, σ1) ∧ F_X12_say x y n' σ1 = some (r, σ2) ∧ Iv h σ2 := by
  obtain ⟨D, hC, hM, hW⟩ := id hI.2.2.2.2.2
  have oP := okP_of hI.1
  have h60 := hW.2.1
  have hB : CB D σ := ⟨hI.1, hC⟩
  have g0 : (0 ≤ x ∧ x ≤ 195) → ¬ x < 0 := fun z w => by clear hI hC hM hW hB; grind
  have g1 : (0 ≤ x ∧ x ≤ 195) → ¬ (196 : Int32) ≤ x := fun z w => by clear hI hC hM hW hB; grind
  have g2 : ¬ x < 0 → ¬ (196 : Int32) ≤ x → 0 ≤ x ∧ x ≤ 195 := fun z w => by clear hI hC hM hW hB; constructor <;> grind
  by_cases hv : (0 ≤ x ∧ x ≤ 195) ∧ (0 ≤ y ∧ y ≤ 5000) ∧ (0 ≤ n' ∧ n' ≤ nI (dN D 1))
  · obtain ⟨v1, v2, v3⟩ := hv
    obtain ⟨n, hn, rfl⟩ := known_nat (by omega) v3
    obtain ⟨l, hl, rfl⟩ : ∃ l : Nat, l < 196 ∧ x = nI l := thing_nat (F := 196) (by omega) ⟨v1.1, by have := g1 v1; have e : nI 196 = 196 := rfl; rw [e]; clear hI hC hM hW hB g0 g1 g2 v1 v2 v3; grind⟩
    refine q_call hI fr_X11_say rfl (sayV D n l y) ?_ (fun _ => fr_X12_say) rfl (fun σ1 f1 => ?_)
    · unfold F_X11_say
      rw [if_neg (g0 v1), if_neg (g1 v1), isYearC, if_pos v2, if_neg ne10, if_pos oP, isKnownC (s := 0) hC.2.2.2.2.2.2.2, if_pos v3, if_neg ne10]
      refine Ok_V ((s_know hW hn hC).frV fr_X2_know) (fun τ hτ => ?_)
      obtain ⟨hG, f⟩ := hτ
      exact sayC hW hn hl (hB.fr (f.sub rfl)) hG
    · have hM1 : RM σ1 0 D := hM.fr (f1.sub rfl)
      unfold F_X12_say F_X12_say_23
      rw [isInM, if_pos v1, if_neg ne10, isYearM, if_pos v2, if_neg ne10, isKnownM hM1, bnd_s, if_pos v3, if_neg ne10]
      refine Ok_V ((s_layAll hW hn hM1).frV fr_X12_layAll) (fun τ hτ => ?_)
      obtain ⟨⟨hY, hS⟩, f⟩ := hτ
      exact ⟨_, sayM hW hn hl (hM1.fr (f.sub rfl)) hY.my hS, rfl⟩
  · refine ⟨-1, σ, σ, ?_, ?_, hI⟩
    · unfold F_X11_say
      by_cases a : x < 0
      · rw [if_pos a]
      rw [if_neg a]
      by_cases b : (196 : Int32) ≤ x
      · rw [if_pos b]
      rw [if_neg b, isYearC, isKnownC (s := 0) hC.2.2.2.2.2.2.2]
      by_cases v2 : 0 ≤ y ∧ y ≤ 5000
      · rw [if_pos v2, if_neg ne10, if_pos oP, if_neg (fun z => hv ⟨g2 a b, v2, z⟩), if_pos rfl]
      · rw [if_neg v2, if_pos rfl]
    · unfold F_X12_say F_X12_say_23
      rw [isInM, isYearM, isKnownM hM, bnd_s]
      by_cases v1 : 0 ≤ x ∧ x ≤ 195
      · rw [if_pos v1, if_neg ne10]
        by_cases v2 : 0 ≤ y ∧ y ≤ 5000
        · rw [if_pos v2, if_neg ne10, if_neg (fun z => hv ⟨v1, v2, z⟩), if_pos rfl]
        · rw [if_neg v2, if_pos rfl]
      · rw [if_neg v1, if_pos rfl]
