/-! the model: all LINES laid -/
def anR (D : DD) (v : Nat → Int32) : Nat → Bool
  | 0 => false
  | r + 1 => anR D v r || conV v (dR D r)
/-- whether l COUNTS -/
def cntd (D : DD) (n l : Nat) : Bool := isL D n l && (decide (dN D 5 = 0) || anR D (tr D n l) (dN D 5))
def LYr (D : DD) (n l : Nat) (σ : Mm) : Prop := mA σ 3 0 52 l = (if isL D n l then 1 else 0) ∧ mA σ 3 0 55 l = (if cntd D n l then 1 else 0) ∧ (isL D n l = true → mA σ 3 0 53 l = lDeg D n l ∧ mA σ 3 0 54 l = lFar D n l)
theorem LK.fr {D : DD} {n : Nat} {W : List (Nat × Nat × Nat)} {σ τ : Mm} (h : LK D n (nT D) σ) (hf : Fr W σ τ) (hw : (noW W 3 48 && (noW W 3 49 && (noW W 3 50 && noW W 3 51))) = true) : LK D n (nT D) τ := by
  simp only [Bool.and_eq_true] at hw
  unfold LK
  rw [hf.row (t := 3) (k := 48) 0 hw.1, hf.row (t := 3) (k := 49) 0 hw.2.1, hf.row (t := 3) (k := 50) 0 hw.2.2.1, hf.row (t := 3) (k := 51) 0 hw.2.2.2]
  exact h
theorem LYr.fr {D : DD} {n l : Nat} {W : List (Nat × Nat × Nat)} {σ τ : Mm} (h : LYr D n l σ) (hf : Fr W σ τ) (hw : (noW W 3 52 && (noW W 3 53 && (noW W 3 54 && noW W 3 55))) = true) : LYr D n l τ := by
  simp only [Bool.and_eq_true] at hw
  unfold LYr
  rw [hf.row (t := 3) (k := 52) 0 hw.1, hf.row (t := 3) (k := 53) 0 hw.2.1, hf.row (t := 3) (k := 54) 0 hw.2.2.1, hf.row (t := 3) (k := 55) 0 hw.2.2.2]
  exact h
theorem s_lineOf {D : DD} (hW : WF D) {n l k : Nat} {σ : Mm} (hl : l < 196) (hk : k < 9) (hM : RM σ 0 D) (hK : LK D n (nT D) σ) (hL : isL D n l = true) (h53 : mA σ 3 0 53 l = lDeg D n l) (h54 : mA σ 3 0 54 l = lFar D n l) : F_X12_lineOf (nI l) (nI k) σ = some (tr D n l k, σ) := by
  obtain ⟨d1, d2, d3, d4, d5, d6, d7, d8, d9, d10⟩ := nI14 hl
  obtain ⟨-, c1, c2, -, -, -⟩ := isL_sp hL
  obtain ⟨-, -, a3, -⟩ := hK _ c1
  obtain ⟨-, -, b3, -⟩ := hK _ c2
  have a9 := (RMt_bas hM.2.1 c1).2.2.2.1
  have b9 := (RMt_bas hM.2.1 c2).2.2.2.1
  have s1 := kS_01 hW c1
  have s2 := kS_01 hW c2
  have h14 := hW.1
  unfold F_X12_lineOf
  rw [d1, show nI l - nI (l / 14) * 14 = nI (l % 14) by rw [← d1]; exact d2]
  unfold F_X12_lineOf_11 F_X12_lineOf_65 F_X12_lineOf_94 F_X12_lineOf_116
  simp only [d3, d4, d5, d6, d7, d8, d9, d10, if_true, a3, b3, a9, b9, h53, h54, s_isDoor hW (show l / 14 < 14 by omega) (show l % 14 < 14 by omega) hM, s_isDoor hW (show l % 14 < 14 by omega) (show l / 14 < 14 by omega) hM, bnd_s]
  have hc : k = 0 ∨ k = 1 ∨ k = 2 ∨ k = 3 ∨ k = 4 ∨ k = 5 ∨ k = 6 ∨ k = 7 ∨ k = 8 := by omega
  have q2 : ∀ j, j < 9 → j ≠ k → ¬ nI k = nI j := fun j hj h z => h ((nI_eq (by omega) (by omega)).mp z).symm
  have p2 : (2 : Int32) = nI 2 := rfl
  have p3 : (3 : Int32) = nI 3 := rfl
  have p4 : (4 : Int32) = nI 4 := rfl
  have p5 : (5 : Int32) = nI 5 := rfl
  have p6 : (6 : Int32) = nI 6 := rfl
  have p7 : (7 : Int32) = nI 7 := rfl
  have p8 : (8 : Int32) = nI 8 := rfl
  rw [p2, p3, p4, p5, p6, p7, p8]
  rcases hc with rfl | rfl | rfl | rfl | rfl | rfl | rfl | rfl | rfl
  · rw [if_neg (q2 2 (by omega) (by omega)), if_neg (q2 3 (by omega) (by omega)), if_neg (q2 4 (by omega) (by omega)), if_neg (q2 5 (by omega) (by omega)), if_neg (q2 6 (by omega) (by omega)), if_neg (q2 7 (by omega) (by omega)), if_neg (q2 8 (by omega) (by omega)), ← tr_0]
  · rw [if_neg (q2 2 (by omega) (by omega)), if_neg (q2 3 (by omega) (by omega)), if_neg (q2 4 (by omega) (by omega)), if_neg (q2 5 (by omega) (by omega)), if_neg (q2 6 (by omega) (by omega)), if_neg (q2 7 (by omega) (by omega)), if_neg (q2 8 (by omega) (by omega)), ← tr_1]
  · rw [if_pos rfl, ← tr_2]
  · rw [if_neg (q2 2 (by omega) (by omega)), if_pos rfl, ← tr_3]
  · rw [if_neg (q2 2 (by omega) (by omega)), if_neg (q2 3 (by omega) (by omega)), if_pos rfl, ← tr_4]
    rcases s1 with z | z <;> rcases s2 with w | w <;> rw [z, w] <;> rfl
  · rw [if_neg (q2 2 (by omega) (by omega)), if_neg (q2 3 (by omega) (by omega)), if_neg (q2 4 (by omega) (by omega)), if_pos rfl, ← tr_5]
    cases dD D (l / 14) (l % 14) <;> rfl
  · rw [if_neg (q2 2 (by omega) (by omega)), if_neg (q2 3 (by omega) (by omega)), if_neg (q2 4 (by omega) (by omega)), if_neg (q2 5 (by omega) (by omega)), if_pos rfl, ← tr_6]
    cases dD D (l % 14) (l / 14) <;> rfl
  · rw [if_neg (q2 2 (by omega) (by omega)), if_neg (q2 3 (by omega) (by omega)), if_neg (q2 4 (by omega) (by omega)), if_neg (q2 5 (by omega) (by omega)), if_neg (q2 6 (by omega) (by omega)), if_pos rfl, ← tr_7]
    split <;> rfl
  · rw [if_neg (q2 2 (by omega) (by omega)), if_neg (q2 3 (by omega) (by omega)), if_neg (q2 4 (by omega) (by omega)), if_neg (q2 5 (by omega) (by omega)), if_neg (q2 6 (by omega) (by omega)), if_neg (q2 7 (by omega) (by omega)), if_pos rfl, ← tr_8]
theorem look_2 {D : DD} (hW : WF D) {n l : Nat} (hl : l < 196) (hL : isL D n l = true) : ∀ (m k : Nat) (σ : Mm), 9 - k < m → k ≤ 9 → RM σ 0 D → LK D n (nT D) σ → mA σ 3 0 53 l = lDeg D n l → mA σ 3 0 54 l = lFar D n l → (∀ j, j < k → mA σ 3 0 56 j = tr D n l j) → Ok (F_X12_look_2 m (nI l) (nI k) σ) (fun τ => ∀ j, j < 9 → mA τ 3 0 56 j = tr D n l j) := by
  intro m
  induction m with
  | zero => intro k σ h; omega
  | succ m ih =>
    intro k σ hm hk hM hK h53 h54 hj
    change Ok (B_X12_look_2 (F_X12_look_2 m) _ _ _) _
    unfold B_X12_look_2
    by_cases hd : 9 ≤ k
    · exact Ok_t (nI_le (a := 9) hd (by omega)) (Ok_r (fun j h => hj j (by omega)))
    refine Ok_f (show ¬ (9 : Int32) ≤ nI k from nI_ge (b := 9) (by omega) (by decide)) ?_
    rw [s_lineOf hW hl (by omega) hM hK hL h53 h54, bnd_s]
    unfold F_X12_look_19 F_X12_look_20
    have hck : (nI k).toNatClampNeg = k := nI_clamp (by omega)
    have i9 : inb (nI k) 9 = true := by
      have : k < 9 := by omega
      clear ih hM hK h53 h54 hj hW hL; grind [gI, gB, gC]
    refine Ok_t i9 ?_
    rw [hck, nI_1]
    have fr : Fr [(3, 56, 999)] σ (setA σ 3 0 56 (upd (mA σ 3 0 56) k (tr D n l k))) := Fr.AA Fr_r rfl
    refine ih (k + 1) _ (by omega) (by omega) (hM.fr (fr.sub rfl)) (hK.fr fr rfl) ?_ ?_ (fun j h => ?_)
    · rw [fr.row (t := 3) (k := 53) 0 rfl]; exact h53
    · rw [fr.row (t := 3) (k := 54) 0 rfl]; exact h54
    · simp only [mA_A, mL_A, mP_A, mA_L, mL_L, mP_L, upd_at]
      simp only [and_self, if_true]
      by_cases e : j = k
      · rw [if_pos e, e]
      · rw [if_neg e]; exact hj j (by omega)
theorem s_look {D : DD} (hW : WF D) {n l : Nat} {σ : Mm} (hl : l < 196) (hL : isL D n l = true) (hM : RM σ 0 D) (hK : LK D n (nT D) σ) (h53 : mA σ 3 0 53 l = lDeg D n l) (h54 : mA σ 3 0 54 l = lFar D n l) : Ok (F_X12_look (nI l) σ) (fun τ => ∀ j, j < 9 → mA τ 3 0 56 j = tr D n l j) :=
  look_2 hW hl hL FU 0 σ (by decide) (by omega) hM hK h53 h54 (fun j h => absurd h (by omega))
theorem nar01 (c : Bool) : vp_nar .boolean (if c = true then 1 else 0) = if c = true then 1 else 0 := by cases c <;> decide
/-- the rules are looked through for a LINE -/
theorem lay_238 {D : DD} (hW : WF D) {n l : Nat} (hl : l < 196) (hL : isL D n l = true) {rc : Int32 → Mm → Option Mm} {Q : Mm → Prop} (hrc : ∀ τ, RM τ 0 D → LK D n (nT D) τ → (∀ x, x < l + 1 → LYr D n x τ) → Ok (rc (nI (l + 1)) τ) Q) :
    ∀ (m r : Nat) (σ : Mm), dN D 5 - r < m → r ≤ dN D 5 → RM σ 0 D → LK D n (nT D) σ → (∀ x, x < l → LYr D n x σ) → mA σ 3 0 52 l = 1 → mA σ 3 0 53 l = lDeg D n l → mA σ 3 0 54 l = lFar D n l → (∀ j, j < 9 → mA σ 3 0 56 j = tr D n l j) → mA σ 3 0 55 l = (if (decide (dN D 5 = 0) || anR D (tr D n l) r) = true then 1 else 0) → Ok (F_X12_lay_238 rc m (nI l) (nI r) σ) Q := by
  have h6 := hW.2.2.2.2.2.1
  obtain ⟨-, -, -, -, -, -, d7, d8, -, -⟩ := nI14 hl
  intro m
  induction m with
  | zero => intro r σ h; omega
  | succ m ih =>
    intro r σ hm hr hM hK hY h52 h53 h54 h56 h55
    change Ok (B_X12_lay_238 rc (F_X12_lay_238 rc m) _ _ _) _
    unfold B_X12_lay_238 F_X12_lay_288
    rw [c0, hM.1.2.2.2.2.2.1, nI_1]
    refine Ok_t (by decide) ?_
    have fin : ∀ c : Bool, c = anR D (tr D n l) (dN D 5) ∨ dN D 5 = 0 → mA σ 3 0 55 l = (if (decide (dN D 5 = 0) || c) = true then 1 else 0) → Ok (rc (nI (l + 1)) σ) Q := by
      intro c hc h
      refine hrc σ hM hK (fun x hx => ?_)
      by_cases e : x = l
      · subst e
        refine ⟨?_, ?_, fun _ => ⟨h53, h54⟩⟩
        · rw [h52, hL]; rfl
        · unfold cntd
          rw [h, hL, Bool.true_and]
          rcases hc with z | z
          · rw [z]
          · rw [decide_eq_true z]; rfl
      · exact hY x (by omega)
    by_cases hd : dN D 5 ≤ r
    · have e : r = dN D 5 := by omega
      subst e
      exact Ok_t (nI_le hd (by omega)) (fin _ (Or.inl rfl) h55)
    have hr2 : r < dN D 5 := by omega
    have hcr : (nI r).toNatClampNeg = r := nI_clamp (by omega)
    have i30 : inb (nI r) 30 = true := by
      have : r < 6 := by omega
      clear ih hM hK hY h52 h53 h54 h56 h55 hrc fin hW hL; grind [gI, gB, gC]
    have hn0 : decide (dN D 5 = 0) = false := decide_eq_false (by omega)
    rw [hn0, Bool.false_or] at h55
    refine Ok_f (nI_ge (by omega) (by omega)) (Ok_t d8 ?_)
    rw [d7, hcr, h55]
    cases ha : anR D (tr D n l) r with
    | true =>
      refine Ok_f (by decide) (fin true (Or.inl ?_) (by rw [h55, ha, Bool.or_true]))
      have mono : ∀ q, r ≤ q → anR D (tr D n l) q = true := by
        intro q hq
        induction q with
        | zero => have : r = 0 := by omega
                  subst this; exact ha
        | succ q ihq =>
          by_cases e : r = q + 1
          · subst e; exact ha
          · show (anR D (tr D n l) q || _) = true
            rw [ihq (by omega)]; rfl
      exact (mono _ hr).symm
    | false =>
      refine Ok_t (by decide) (Ok_t i30 (Ok_t i30 (Ok_B ((s_isHeld hW hM hr2).frI fr_X12_isHeld) (fun v τ hv => ?_))))
      obtain ⟨hv, fr⟩ := hv
      have hv : v = if conV (mA σ 3 0 56) (dR D r) = true then 1 else 0 := hv
      have fr : Fr W_X12_isHeld σ τ := fr
      unfold F_X12_lay_281 F_X12_lay_282
      refine Ok_t d8 ?_
      rw [hv, nar01, d7, nI_1, conV_cong h56 (hW.2.2.2.2.2.2.2.2.2.2 r hr2)]
      have fr2 : Fr [(3, 55, 999)] τ (setA τ 3 0 55 (upd (mA τ 3 0 55) l (if conV (tr D n l) (dR D r) = true then 1 else 0))) := Fr.AA Fr_r rfl
      refine ih (r + 1) _ (by omega) (by omega) ((hM.fr (fr.sub rfl)).fr (fr2.sub rfl)) ((hK.fr fr rfl).fr fr2 rfl) (fun x hx => ?_) ?_ ?_ ?_ (fun j hj => ?_) ?_
      · obtain ⟨y1, y2, y3⟩ := (hY x hx).fr fr rfl
        refine ⟨?_, ?_, ?_⟩
        · rw [fr2.row (t := 3) (k := 52) 0 rfl]; exact y1
        · simp only [mA_A, mL_A, mP_A, mA_L, mL_L, mP_L, upd_at]; simp only [and_self, if_true]; rw [if_neg (by omega)]; exact y2
        · rw [fr2.row (t := 3) (k := 53) 0 rfl, fr2.row (t := 3) (k := 54) 0 rfl]; exact y3
      · rw [fr2.row (t := 3) (k := 52) 0 rfl, fr.row (t := 3) (k := 52) 0 rfl]; exact h52
      · rw [fr2.row (t := 3) (k := 53) 0 rfl, fr.row (t := 3) (k := 53) 0 rfl]; exact h53
      · rw [fr2.row (t := 3) (k := 54) 0 rfl, fr.row (t := 3) (k := 54) 0 rfl]; exact h54
      · rw [fr2.row (t := 3) (k := 56) 0 rfl, fr.row (t := 3) (k := 56) 0 rfl]; exact h56 j hj
      · simp only [mA_A, mL_A, mP_A, mA_L, mL_L, mP_L, upd_at]; simp only [and_self, if_true]
        show _ = if (decide (dN D 5 = 0) || (anR D (tr D n l) r || conV (tr D n l) (dR D r))) = true then 1 else 0
        rw [hn0, ha, Bool.false_or, Bool.false_or]
theorem lay_7 {D : DD} (hW : WF D) {n : Nat} (hn : n ≤ dN D 1) : ∀ (m l : Nat) (σ : Mm), 196 - l < m → l ≤ 196 → RM σ 0 D → LK D n (nT D) σ → (∀ x, x < l → LYr D n x σ) → Ok (F_X12_lay_7 m (nI l) σ) (fun τ => LK D n (nT D) τ ∧ ∀ x, x < 196 → LYr D n x τ) := by
  have h14 := hW.1
  have h6 := hW.2.2.2.2.2.1
  have i0 : inb 0 5 = true := by decide
  have z0 : vp_nar .boolean 0 = 0 := by decide
  have z1 : vp_nar .boolean 1 = 1 := by decide
  intro m
  induction m with
  | zero => intro l σ h; omega
  | succ m ih =>
    intro l σ hm hl hM hK hY
    change Ok (B_X12_lay_7 (F_X12_lay_7 m) _ _) _
    unfold B_X12_lay_7
    by_cases hd : 196 ≤ l
    · exact Ok_t (nI_le (a := 196) hd (by omega)) (Ok_r ⟨hK, fun x hx => hY x (by omega)⟩)
    have hl2 : l < 196 := by omega
    refine Ok_f (show ¬ (196 : Int32) ≤ nI l from nI_ge (b := 196) (by omega) (by decide)) ?_
    obtain ⟨d1, d2, d3, d4, d5, d6, d7, d8, d9, d10⟩ := nI14 hl2
    rw [d1, show nI l - nI (l / 14) * 14 = nI (l % 14) by rw [← d1]; exact d2]
    -- what follows once it is known whether l is a LINE
    have go : ∀ s : Int32, s = (if isL D n l then 1 else 0) → Ok (F_X12_lay_113 (F_X12_lay_7 m) (nI l) (nI (l / 14)) (nI (l % 14)) s (nI l) σ) (fun τ => LK D n (nT D) τ ∧ ∀ x, x < 196 → LYr D n x τ) := by
      intro s hs
      unfold F_X12_lay_113
      refine Ok_t d8 ?_
      rw [hs, nar01, d7]
      unfold F_X12_lay_114
      refine Ok_t d8 ?_
      rw [z0, d7]
      have f1 : Fr [(3, 52, 999), (3, 55, 999)] σ (setA (setA σ 3 0 52 (upd (mA σ 3 0 52) l (if isL D n l = true then 1 else 0))) 3 0 55 (upd (mA (setA σ 3 0 52 (upd (mA σ 3 0 52) l (if isL D n l = true then 1 else 0))) 3 0 55) l 0)) := Fr.AA (Fr.AA Fr_r rfl) rfl
      have e52 : mA (setA (setA σ 3 0 52 (upd (mA σ 3 0 52) l (if isL D n l = true then 1 else 0))) 3 0 55 (upd (mA (setA σ 3 0 52 (upd (mA σ 3 0 52) l (if isL D n l = true then 1 else 0))) 3 0 55) l 0)) 3 0 52 l = if isL D n l = true then 1 else 0 := by simp only [mA_A, mL_A, mP_A, mA_L, mL_L, mP_L, upd_at]; simp
      have e55 : mA (setA (setA σ 3 0 52 (upd (mA σ 3 0 52) l (if isL D n l = true then 1 else 0))) 3 0 55 (upd (mA (setA σ 3 0 52 (upd (mA σ 3 0 52) l (if isL D n l = true then 1 else 0))) 3 0 55) l 0)) 3 0 55 l = 0 := by simp only [mA_A, mL_A, mP_A, mA_L, mL_L, mP_L, upd_at]; simp
      have eY : ∀ x, x < l → LYr D n x (setA (setA σ 3 0 52 (upd (mA σ 3 0 52) l (if isL D n l = true then 1 else 0))) 3 0 55 (upd (mA (setA σ 3 0 52 (upd (mA σ 3 0 52) l (if isL D n l = true then 1 else 0))) 3 0 55) l 0)) := by
        intro x hx
        obtain ⟨y1, y2, y3⟩ := hY x hx
        refine ⟨?_, ?_, ?_⟩
        · simp only [mA_A, mL_A, mP_A, mA_L, mL_L, mP_L, upd_at]; simp; rw [if_neg (by omega)]; exact y1
        · simp only [mA_A, mL_A, mP_A, mA_L, mL_L, mP_L, upd_at]; simp; rw [if_neg (by omega)]; exact y2
        · rw [f1.row (t := 3) (k := 53) 0 rfl, f1.row (t := 3) (k := 54) 0 rfl]; exact y3
      generalize (setA (setA σ 3 0 52 (upd (mA σ 3 0 52) l (if isL D n l = true then 1 else 0))) 3 0 55 (upd (mA (setA σ 3 0 52 (upd (mA σ 3 0 52) l (if isL D n l = true then 1 else 0))) 3 0 55) l 0)) = σ1 at *
      have hM1 : RM σ1 0 D := hM.fr (f1.sub rfl)
      have hK1 : LK D n (nT D) σ1 := hK.fr f1 rfl
      clear hM hK hY f1
      unfold F_X12_lay_121 F_X12_lay_288
      refine Ok_t d8 ?_
      rw [d7, e52, nI_1]
      cases hL : isL D n l with
      | false =>
        refine Ok_t (by decide) (ih (l + 1) σ1 (by omega) (by omega) hM1 hK1 (fun x hx => ?_))
        by_cases e : x = l
        · subst e
          refine ⟨e52, ?_, fun z => by rw [hL] at z; cases z⟩
          unfold cntd
          rw [e55, hL]; rfl
        · exact eY x (by omega)
      | true =>
        rw [hL] at e52
        obtain ⟨-, c1, c2, -, -, -⟩ := isL_sp hL
        obtain ⟨a1, a2, -, -⟩ := hK1 _ c1
        obtain ⟨b1, b2, -, -⟩ := hK1 _ c2
        obtain ⟨r1, r2⟩ := lEH hW hn c1 c2
        refine Ok_f (by decide) (Ok_t d6 (Ok_t d5 ?_))
        rw [d3, d4, a1, b1]
        unfold F_X12_lay_149
        refine Ok_t d6 (Ok_t d5 ?_)
        rw [d3, d4, a2, b2]
        unfold F_X12_lay_165
        rw [show kE D n (l % 14) - kE D n (l / 14) = lE D n l from rfl, show kN D n (l % 14) - kN D n (l / 14) = lH D n l from rfl, s_degreeOf r1 r2 (lne hL), bnd_s]
        unfold F_X12_lay_177
        refine Ok_t d8 ?_
        rw [d7]
        have next : ∀ far : Int32, far = lFar D n l → Ok (F_X12_lay_209 (F_X12_lay_7 m) (nI l) far (nI l) (setA σ1 3 0 53 (upd (mA σ1 3 0 53) l (bear (lE D n l) (lH D n l))))) (fun τ => LK D n (nT D) τ ∧ ∀ x, x < 196 → LYr D n x τ) := by
          intro far hfar
          unfold F_X12_lay_209
          refine Ok_t d8 ?_
          rw [d7, hfar]
          have f2 : Fr [(3, 53, 999), (3, 54, 999)] σ1 (setA (setA σ1 3 0 53 (upd (mA σ1 3 0 53) l (bear (lE D n l) (lH D n l)))) 3 0 54 (upd (mA (setA σ1 3 0 53 (upd (mA σ1 3 0 53) l (bear (lE D n l) (lH D n l)))) 3 0 54) l (lFar D n l))) := Fr.AA (Fr.AA Fr_r rfl) rfl
          have e53 : mA (setA (setA σ1 3 0 53 (upd (mA σ1 3 0 53) l (bear (lE D n l) (lH D n l)))) 3 0 54 (upd (mA (setA σ1 3 0 53 (upd (mA σ1 3 0 53) l (bear (lE D n l) (lH D n l)))) 3 0 54) l (lFar D n l))) 3 0 53 l = lDeg D n l := by simp only [mA_A, mL_A, mP_A, mA_L, mL_L, mP_L, upd_at]; simp; rfl
          have e54 : mA (setA (setA σ1 3 0 53 (upd (mA σ1 3 0 53) l (bear (lE D n l) (lH D n l)))) 3 0 54 (upd (mA (setA σ1 3 0 53 (upd (mA σ1 3 0 53) l (bear (lE D n l) (lH D n l)))) 3 0 54) l (lFar D n l))) 3 0 54 l = lFar D n l := by simp only [mA_A, mL_A, mP_A, mA_L, mL_L, mP_L, upd_at]; simp
          have eY2 : ∀ x, x < l → LYr D n x (setA (setA σ1 3 0 53 (upd (mA σ1 3 0 53) l (bear (lE D n l) (lH D n l)))) 3 0 54 (upd (mA (setA σ1 3 0 53 (upd (mA σ1 3 0 53) l (bear (lE D n l) (lH D n l)))) 3 0 54) l (lFar D n l))) := by
            intro x hx
            obtain ⟨y1, y2, y3⟩ := eY x hx
            refine ⟨?_, ?_, fun z => ?_⟩
            · rw [f2.row (t := 3) (k := 52) 0 rfl]; exact y1
            · rw [f2.row (t := 3) (k := 55) 0 rfl]; exact y2
            · simp only [mA_A, mL_A, mP_A, mA_L, mL_L, mP_L, upd_at]; simp; rw [if_neg (by omega), if_neg (by omega)]; exact y3 z
          have e52' : mA (setA (setA σ1 3 0 53 (upd (mA σ1 3 0 53) l (bear (lE D n l) (lH D n l)))) 3 0 54 (upd (mA (setA σ1 3 0 53 (upd (mA σ1 3 0 53) l (bear (lE D n l) (lH D n l)))) 3 0 54) l (lFar D n l))) 3 0 52 l = 1 := by rw [f2.row (t := 3) (k := 52) 0 rfl]; exact e52
          generalize (setA (setA σ1 3 0 53 (upd (mA σ1 3 0 53) l (bear (lE D n l) (lH D n l)))) 3 0 54 (upd (mA (setA σ1 3 0 53 (upd (mA σ1 3 0 53) l (bear (lE D n l) (lH D n l)))) 3 0 54) l (lFar D n l))) = σ2 at *
          have hM2 : RM σ2 0 D := hM1.fr (f2.sub rfl)
          have hK2 : LK D n (nT D) σ2 := hK1.fr f2 rfl
          clear f2 eY e52 e55 hM1 hK1 a1 a2 b1 b2
          unfold F_X12_lay_210
          rw [c0, hM2.1.2.2.2.2.2.1]
          refine Ok_t i0 ?_
          have last : ∀ s : Int32, s = (if dN D 5 = 0 then 1 else 0) → Ok (F_X12_lay_229 (F_X12_lay_7 m) (nI l) s (nI l) σ2) (fun τ => LK D n (nT D) τ ∧ ∀ x, x < 196 → LYr D n x τ) := by
            intro s hs
            unfold F_X12_lay_229
            refine Ok_t d8 ?_
            have hs' : vp_nar .boolean s = (if dN D 5 = 0 then 1 else 0) := by
              rw [hs]; split
              · exact z1
              · exact z0
            rw [hs', d7]
            unfold F_X12_lay_230
            have f3 : Fr [(3, 55, 999)] σ2 (setA σ2 3 0 55 (upd (mA σ2 3 0 55) l (if dN D 5 = 0 then 1 else 0))) := Fr.AA Fr_r rfl
            have e55' : mA (setA σ2 3 0 55 (upd (mA σ2 3 0 55) l (if dN D 5 = 0 then 1 else 0))) 3 0 55 l = (if dN D 5 = 0 then 1 else 0) := by simp only [mA_A, mL_A, mP_A, mA_L, mL_L, mP_L, upd_at]; simp
            have eY3 : ∀ x, x < l → LYr D n x (setA σ2 3 0 55 (upd (mA σ2 3 0 55) l (if dN D 5 = 0 then 1 else 0))) := by
              intro x hx
              obtain ⟨y1, y2, y3⟩ := eY2 x hx
              refine ⟨?_, ?_, ?_⟩
              · rw [f3.row (t := 3) (k := 52) 0 rfl]; exact y1
              · simp only [mA_A, mL_A, mP_A, mA_L, mL_L, mP_L, upd_at]; simp; rw [if_neg (by omega)]; exact y2
              · rw [f3.row (t := 3) (k := 53) 0 rfl, f3.row (t := 3) (k := 54) 0 rfl]; exact y3
            generalize (setA σ2 3 0 55 (upd (mA σ2 3 0 55) l (if dN D 5 = 0 then 1 else 0))) = σ3 at *
            have e53' : mA σ3 3 0 53 l = lDeg D n l := by rw [f3.row (t := 3) (k := 53) 0 rfl]; exact e53
            have e54' : mA σ3 3 0 54 l = lFar D n l := by rw [f3.row (t := 3) (k := 54) 0 rfl]; exact e54
            have hM3 : RM σ3 0 D := hM2.fr (f3.sub rfl)
            have hK3 : LK D n (nT D) σ3 := hK2.fr f3 rfl
            refine Ok_V ((s_look hW hl2 hL hM3 hK3 e53' e54').frV fr_X12_look) (fun τ hτ => ?_)
            obtain ⟨h56, f4⟩ := hτ
            unfold F_X12_lay_235
            refine lay_238 hW hl2 hL (fun υ hMυ hKυ hYυ => ih (l + 1) υ (by omega) (by omega) hMυ hKυ hYυ) FU 0 τ (by show _ < 1000000; omega) (by omega) (hM3.fr (f4.sub rfl)) (hK3.fr f4 rfl) (fun x hx => (eY3 x hx).fr f4 rfl) ?_ ?_ ?_ h56 ?_
            · rw [f4.row (t := 3) (k := 52) 0 rfl, f3.row (t := 3) (k := 52) 0 rfl]; exact e52'
            · rw [f4.row (t := 3) (k := 53) 0 rfl]; exact e53'
            · rw [f4.row (t := 3) (k := 54) 0 rfl]; exact e54'
            · rw [f4.row (t := 3) (k := 55) 0 rfl, e55']
              show _ = if (decide (dN D 5 = 0) || false) = true then 1 else 0
              rw [Bool.or_false]
              by_cases z : dN D 5 = 0
              · rw [if_pos z, decide_eq_true z]; rfl
              · rw [if_neg z, decide_eq_false z]; rfl
          by_cases z : dN D 5 = 0
          · rw [z]
            exact Ok_t rfl (last 1 (by rw [if_pos z]))
          · refine Ok_f (nI_ne0 (by omega) (by omega)) (last 0 (by rw [if_neg z]))
        unfold F_X12_lay_178
        by_cases hc : f_X12_plain (lE D n l) ≤ f_X12_plain (lH D n l)
        · exact Ok_t hc (next _ (by unfold lFar; rw [if_pos hc]))
        · exact Ok_f hc (next _ (by unfold lFar; rw [if_neg hc]))
    unfold F_X12_lay_25 F_X12_lay_112 F_X12_lay_108
    rw [c0, hM.1.2.1, d3, d4]
    have out : ∀ c : ¬ (l / 14 ≠ l % 14 ∧ l / 14 < nT D ∧ l % 14 < nT D ∧ kG D n (l / 14) = false ∧ kG D n (l % 14) = false ∧ (kE D n (l / 14) ≠ kE D n (l % 14) ∨ kN D n (l / 14) ≠ kN D n (l % 14))), (0 : Int32) = if isL D n l = true then 1 else 0 := fun c => by rw [show isL D n l = false from decide_eq_false c]; rfl
    by_cases e0 : l / 14 = l % 14
    · exact Ok_t (by rw [e0]) (go 0 (out (fun z => z.1 e0)))
    refine Ok_f (fun z => e0 ((nI_eq (by omega) (by omega)).mp z)) (Ok_t i0 ?_)
    by_cases c1' : nT D ≤ l / 14
    · exact Ok_t (nI_le (by omega) (by omega)) (go 0 (out (fun z => by omega)))
    have c1 : l / 14 < nT D := by omega
    refine Ok_f (nI_ge (by omega) (by omega)) (Ok_t i0 ?_)
    by_cases c2' : nT D ≤ l % 14
    · exact Ok_t (nI_le (by omega) (by omega)) (go 0 (out (fun z => by omega)))
    have c2 : l % 14 < nT D := by omega
    obtain ⟨a1, a2, -, a4⟩ := hK _ c1
    obtain ⟨b1, b2, -, b4⟩ := hK _ c2
    rw [a1, a2, a4, b1, b2, b4]
    refine Ok_f (nI_ge (by omega) (by omega)) (Ok_t d5 ?_)
    cases q3 : kG D n (l / 14) with
    | true => exact Ok_f (by decide) (go 0 (out (fun z => by rw [q3] at z; exact absurd z.2.2.2.1 (by decide))))
    | false =>
      refine Ok_t (by decide) (Ok_t d6 ?_)
      cases q4 : kG D n (l % 14) with
      | true => exact Ok_f (by decide) (go 0 (out (fun z => by rw [q4] at z; exact absurd z.2.2.2.2.1 (by decide))))
      | false =>
        refine Ok_t (by decide) (Ok_t d5 (Ok_t d6 ?_))
        by_cases c5 : kE D n (l / 14) = kE D n (l % 14)
        · refine Ok_t c5 (Ok_t d5 (Ok_t d6 ?_))
          by_cases c6 : kN D n (l / 14) = kN D n (l % 14)
          · exact Ok_t c6 (go 0 (out (fun z => z.2.2.2.2.2.elim (fun w => w c5) (fun w => w c6))))
          · exact Ok_f c6 (go 1 (by rw [show isL D n l = true from decide_eq_true ⟨e0, c1, c2, q3, q4, Or.inr c6⟩]; rfl))
        · exact Ok_f c5 (go 1 (by rw [show isL D n l = true from decide_eq_true ⟨e0, c1, c2, q3, q4, Or.inl c5⟩]; rfl))
/-- the model has laid all LINES as known by n -/
def LY (D : DD) (n : Nat) (σ : Mm) : Prop := LK D n (nT D) σ ∧ ∀ x, x < 196 → LYr D n x σ
theorem s_lay {D : DD} (hW : WF D) {n : Nat} {σ : Mm} (hn : n ≤ dN D 1) (hM : RM σ 0 D) : Ok (F_X12_lay (nI n) σ) (LY D n) := by
  unfold F_X12_lay F_X12_lay_5
  refine Ok_V ((s_layThings hW hn hM).frV fr_X12_layThings) (fun τ hτ => ?_)
  obtain ⟨hK, fr⟩ := hτ
  exact lay_7 hW hn FU 0 τ (by show _ < 1000000; omega) (by omega) (hM.fr (fr.sub rfl)) hK (fun x hx => absurd hx (by omega))
