/-! the class: what is known by n comes into the ground -/
theorem wf_void {D : DD} (hW : WF D) {k : Nat} (hk : k < dN D 1) (h4 : dA D 4 k = 4) : ∃ a : Nat, a < k ∧ dA D 5 k = nI a := by
  have h60 := hW.2.1
  rcases hW.2.2.2.2.2.2.2.2.1 k hk with h | h | h | h | h
  · rw [h.1] at h4; exact absurd h4 (by decide)
  · rw [h.1] at h4; exact absurd h4 (by decide)
  · rw [h.1] at h4; exact absurd h4 (by decide)
  · rw [h.1] at h4; exact absurd h4 (by decide)
  · obtain ⟨-, h1, h2, -⟩ := h
    generalize dA D 5 k = z at *
    clear h4 hW
    exact ⟨z.toNatClampNeg, by grind [gI, gC], by grind [gI, gC]⟩
theorem wf_kind {D : DD} (hW : WF D) {k : Nat} (hk : k < dN D 1) : dA D 4 k = 0 ∨ dA D 4 k = 1 ∨ dA D 4 k = 2 ∨ dA D 4 k = 3 ∨ dA D 4 k = 4 := by
  rcases hW.2.2.2.2.2.2.2.2.1 k hk with h | h | h | h | h
  · exact Or.inl h.1
  · exact Or.inr (Or.inl h.1)
  · exact Or.inr (Or.inr (Or.inl h.1))
  · exact Or.inr (Or.inr (Or.inr (Or.inl h.1)))
  · exact Or.inr (Or.inr (Or.inr (Or.inr h.1)))
/-- what a fact that is no VOID is about -/
theorem wf_about {D : DD} (hW : WF D) {k : Nat} (hk : k < dN D 1) (h4 : dA D 4 k ≠ 4) : ∃ a : Nat, a < 14 ∧ dA D 5 k = nI a ∧ (dA D 4 k = 0 → a = dN D 0 + cntF (D.2.1 4) k) ∧ (dA D 4 k ≠ 0 → a < dN D 0 + cntF (D.2.1 4) k) := by
  have h14 : dN D 0 + cntF (D.2.1 4) k ≤ 14 := by
    have h1 : nT D ≤ 14 := hW.1
    have h2 : cntF (D.2.1 4) k ≤ cntF (D.2.1 4) (dN D 1) := cntF_mono (by omega)
    unfold nT at h1; omega
  have key : ∀ z : Int32, 0 ≤ z → z < nI (dN D 0 + cntF (D.2.1 4) k) → ∃ a : Nat, a < dN D 0 + cntF (D.2.1 4) k ∧ z = nI a := by
    intro z z0 z1
    clear h4 hW
    generalize dN D 0 + cntF (D.2.1 4) k = N at *
    exact ⟨z.toNatClampNeg, by grind [gI, gC], by grind [gI, gC]⟩
  rcases hW.2.2.2.2.2.2.2.2.1 k hk with h | h | h | h | h
  · refine ⟨dN D 0 + cntF (D.2.1 4) k, fact_t hW hk h.1, h.2.1, fun _ => rfl, fun z => absurd h.1 z⟩
  · obtain ⟨a, ha, e⟩ := key _ h.2.1 h.2.2.1
    exact ⟨a, by omega, e, fun z => by rw [h.1] at z; exact absurd z (by decide), fun _ => ha⟩
  · obtain ⟨a, ha, e⟩ := key _ h.2.1 h.2.2
    exact ⟨a, by omega, e, fun z => by rw [h.1] at z; exact absurd z (by decide), fun _ => ha⟩
  · obtain ⟨a, ha, e⟩ := key _ h.2.1 h.2.2.1
    exact ⟨a, by omega, e, fun z => by rw [h.1] at z; exact absurd z (by decide), fun _ => ha⟩
  · exact absurd h.1 h4
theorem vd_early {D : DD} (hW : WF D) {k m : Nat} (hk : k < dN D 1) (hm : m ≤ dN D 1) (h : m ≤ k + 1) : vd D k m = false := by
  induction m with
  | zero => rfl
  | succ m ih =>
    show (vd D k m || _) = false
    rw [ih (by omega) (by omega), Bool.false_or]
    apply decide_eq_false
    rintro ⟨a, b⟩
    obtain ⟨c, hc, e⟩ := wf_void hW (by omega) a
    have h60 := hW.2.1
    rw [e] at b
    have := (nI_eq (by omega) (by omega)).mp b
    omega
theorem lst_new {D : DD} (hW : WF D) {n : Nat} {κ : Int32} {t m : Nat} (hm : m ≤ dN D 1) (hκ : κ ≠ 0) (h4 : κ ≠ 4) (ht : dN D 0 + cntF (D.2.1 4) m ≤ t) (ht2 : t < 100) : lst D n κ t m = none := by
  cases h : lst D n κ t m with
  | none => rfl
  | some k =>
    exfalso
    obtain ⟨h1, h2, h3, -⟩ := lst_some h
    obtain ⟨a, h14, e, -, h5⟩ := wf_about hW (k := k) (by omega) (by rw [h2]; exact h4)
    have h6 := h5 (by rw [h2]; exact hκ)
    rw [e] at h3
    have := (nI_eq (by omega) (by omega)).mp h3
    have h7 : cntF (D.2.1 4) k ≤ cntF (D.2.1 4) m := cntF_mono (by omega)
    omega
def eI (D : DD) (n i t : Nat) : Int32 := match lst D n 1 t i with
  | some m => dA D 6 m
  | none => bas D 0 6 t
def nI' (D : DD) (n i t : Nat) : Int32 := match lst D n 1 t i with
  | some m => dA D 7 m
  | none => bas D 1 7 t
def aI (D : DD) (n i t : Nat) : Int32 := match lst D n 3 t i with
  | some m => dA D 8 m
  | none => bas D 2 8 t
def gI' (D : DD) (n i t : Nat) : Bool := (lst D n 2 t i).isSome || (match fx D t (dN D 1) with
  | some k => !liv D n k
  | none => false)
/-- the ground with the first i facts in it -/
def GA (D : DD) (n i : Nat) (σ : Mm) : Prop := mA σ 0 0 15 0 = nI (dN D 0 + cntF (D.2.1 4) i) ∧ ∀ t, t < dN D 0 + cntF (D.2.1 4) i → mA σ 0 0 16 t = eI D n i t ∧ mA σ 0 0 17 t = nI' D n i t ∧ mA σ 0 0 18 t = aI D n i t ∧ mA σ 0 0 19 t = kS D t ∧ mA σ 0 0 20 t = if gI' D n i t then 1 else 0
def VR (D : DD) (n i : Nat) (σ : Mm) : Prop := ∀ k, k < i → mA σ 0 0 21 k = if vd D k (min i n) then 1 else 0
theorem lst_skip {D : DD} {n : Nat} {κ : Int32} {t i : Nat} (h : ¬ (dA D 4 i = κ ∧ dA D 5 i = nI t ∧ liv D n i = true)) : lst D n κ t (i + 1) = lst D n κ t i := if_neg h
theorem lst_hit {D : DD} {n : Nat} {κ : Int32} {t i : Nat} (h1 : dA D 4 i = κ) (h2 : dA D 5 i = nI t) (h3 : liv D n i = true) : lst D n κ t (i + 1) = some i := if_pos ⟨h1, h2, h3⟩
theorem cnt_s {f : Nat → Int32} {i : Nat} : cntF f (i + 1) = cntF f i + (if f i = 0 then 1 else 0) := rfl
/-- one fact more -/
theorem GA_step {D : DD} (hW : WF D) {n i : Nat} {σ τ : Mm} (hi : i < dN D 1) (h : GA D n i σ) {t : Nat} (ht14 : t < 14) (hab : dA D 4 i ≠ 4 → dA D 5 i = nI t ∧ (dA D 4 i = 0 → t = dN D 0 + cntF (D.2.1 4) i) ∧ (dA D 4 i ≠ 0 → t < dN D 0 + cntF (D.2.1 4) i)) {hb : Int32} (hh : hb = if liv D n i then 1 else 0)
    (r0 : mA τ 0 0 15 0 = (if dA D 4 i = 0 then nI (t + 1) else mA σ 0 0 15 0)) (r1 : mA τ 0 0 16 = (if dA D 4 i = 0 ∨ (dA D 4 i = 1 ∧ hb ≠ 0) then upd (mA σ 0 0 16) t (dA D 6 i) else mA σ 0 0 16)) (r2 : mA τ 0 0 17 = (if dA D 4 i = 0 ∨ (dA D 4 i = 1 ∧ hb ≠ 0) then upd (mA σ 0 0 17) t (dA D 7 i) else mA σ 0 0 17))
    (r3 : mA τ 0 0 18 = (if dA D 4 i = 0 ∨ (dA D 4 i = 3 ∧ hb ≠ 0) then upd (mA σ 0 0 18) t (dA D 8 i) else mA σ 0 0 18)) (r4 : mA τ 0 0 19 = (if dA D 4 i = 0 then upd (mA σ 0 0 19) t 0 else mA σ 0 0 19))
    (r5 : mA τ 0 0 20 = (if dA D 4 i = 0 then upd (mA σ 0 0 20) t (if hb = 0 then 1 else 0) else if dA D 4 i = 2 ∧ hb ≠ 0 then upd (mA σ 0 0 20) t 1 else mA σ 0 0 20)) : GA D n (i + 1) τ := by
  have hb0 : hb ≠ 0 ↔ liv D n i = true := by
    rw [hh]; cases liv D n i <;> simp
  have hT14 : dN D 0 + cntF (D.2.1 4) (i + 1) ≤ 14 := by
    have h1 : nT D ≤ 14 := hW.1
    have h2 : cntF (D.2.1 4) (i + 1) ≤ cntF (D.2.1 4) (dN D 1) := cntF_mono (by omega)
    unfold nT at h1; omega
  by_cases k0 : dA D 4 i = 0
  · have n4 : dA D 4 i ≠ 4 := by rw [k0]; decide
    obtain ⟨hab1, hab2, -⟩ := hab n4
    have ht := hab2 k0
    have hc : dN D 0 + cntF (D.2.1 4) (i + 1) = t + 1 := by rw [cnt_s, if_pos k0]; omega
    have hfx : fx D t (dN D 1) = some i := by rw [ht]; exact fx_at hi k0
    rw [if_pos k0] at r0
    rw [if_pos (Or.inl k0)] at r1 r2 r3
    rw [if_pos k0] at r4 r5
    have sk : ∀ κ x, κ ≠ 0 → lst D n κ x (i + 1) = lst D n κ x i := fun κ x hκ => lst_skip fun z => hκ (z.1.symm.trans k0)
    refine ⟨by rw [r0, hc], fun x hx => ?_⟩
    rw [hc] at hx
    unfold eI nI' aI gI' kS bas
    rw [sk 1 x (by decide), sk 2 x (by decide), sk 3 x (by decide), r1, r2, r3, r4, r5]
    simp only [upd_at]
    by_cases hxt : x = t
    · subst hxt
      simp only [if_true]
      rw [lst_new hW (by omega) (by decide) (by decide) (by omega) (by omega), lst_new hW (by omega) (by decide) (by decide) (by omega) (by omega), lst_new hW (by omega) (by decide) (by decide) (by omega) (by omega), hfx]
      refine ⟨rfl, rfl, rfl, rfl, ?_⟩
      show (if hb = 0 then (1 : Int32) else 0) = if (false || !liv D n i) = true then 1 else 0
      rw [hh]; cases liv D n i <;> rfl
    · simp only [if_neg hxt]
      exact h.2 x (by omega)
  · rw [if_neg k0] at r0 r4 r5
    have hc : cntF (D.2.1 4) (i + 1) = cntF (D.2.1 4) i := by rw [cnt_s, if_neg k0]; rfl
    refine ⟨by rw [r0, hc]; exact h.1, fun x hx => ?_⟩
    rw [hc] at hx
    have h14x : x < 14 := by rw [hc] at hT14; omega
    obtain ⟨g1, g2, g3, g4, g5⟩ := h.2 x hx
    rw [r4]
    have hit : ∀ κ, dA D 4 i = κ → κ ≠ 4 → (dA D 5 i = nI x ↔ x = t) := fun κ hκ h4 => by
      obtain ⟨e, -, -⟩ := hab (by rw [hκ]; exact h4)
      rw [e]
      constructor
      · intro z; exact ((nI_eq (by omega) (by omega)).mp z).symm
      · intro z; rw [z]
    refine ⟨?_, ?_, ?_, g4, ?_⟩
    · by_cases c : dA D 4 i = 1 ∧ hb ≠ 0
      · rw [r1, if_pos (Or.inr c)]
        unfold eI
        by_cases hxt : x = t
        · rw [lst_hit c.1 ((hit 1 c.1 (by decide)).mpr hxt) (hb0.mp c.2), upd_at, if_pos hxt]
        · rw [lst_skip (fun z => hxt ((hit 1 c.1 (by decide)).mp z.2.1)), upd_at, if_neg hxt]; exact g1
      · rw [r1, if_neg (fun z => z.elim k0 c)]
        unfold eI
        rw [lst_skip (fun z => c ⟨z.1, hb0.mpr z.2.2⟩)]; exact g1
    · by_cases c : dA D 4 i = 1 ∧ hb ≠ 0
      · rw [r2, if_pos (Or.inr c)]
        unfold nI'
        by_cases hxt : x = t
        · rw [lst_hit c.1 ((hit 1 c.1 (by decide)).mpr hxt) (hb0.mp c.2), upd_at, if_pos hxt]
        · rw [lst_skip (fun z => hxt ((hit 1 c.1 (by decide)).mp z.2.1)), upd_at, if_neg hxt]; exact g2
      · rw [r2, if_neg (fun z => z.elim k0 c)]
        unfold nI'
        rw [lst_skip (fun z => c ⟨z.1, hb0.mpr z.2.2⟩)]; exact g2
    · by_cases c : dA D 4 i = 3 ∧ hb ≠ 0
      · rw [r3, if_pos (Or.inr c)]
        unfold aI
        by_cases hxt : x = t
        · rw [lst_hit c.1 ((hit 3 c.1 (by decide)).mpr hxt) (hb0.mp c.2), upd_at, if_pos hxt]
        · rw [lst_skip (fun z => hxt ((hit 3 c.1 (by decide)).mp z.2.1)), upd_at, if_neg hxt]; exact g3
      · rw [r3, if_neg (fun z => z.elim k0 c)]
        unfold aI
        rw [lst_skip (fun z => c ⟨z.1, hb0.mpr z.2.2⟩)]; exact g3
    · by_cases c : dA D 4 i = 2 ∧ hb ≠ 0
      · rw [r5, if_pos c]
        unfold gI'
        by_cases hxt : x = t
        · rw [lst_hit c.1 ((hit 2 c.1 (by decide)).mpr hxt) (hb0.mp c.2), upd_at, if_pos hxt]; rfl
        · rw [lst_skip (fun z => hxt ((hit 2 c.1 (by decide)).mp z.2.1)), upd_at, if_neg hxt]; exact g5
      · rw [r5, if_neg c]
        unfold gI'
        rw [lst_skip (fun z => c ⟨z.1, hb0.mpr z.2.2⟩)]; exact g5
theorem RCf.fr {W : List (Nat × Nat × Nat)} {σ τ : Mm} {s : Nat} {D : DD} (h : RCf σ s D) (hf : Fr W σ τ) (hw : (noW W 2 0 && (noW W 2 1 && (noW W 2 2 && (noW W 2 3 && (noW W 2 4 && noW W 2 5))))) = true) : RCf τ s D := by
  simp only [Bool.and_eq_true] at hw
  unfold RCf
  rw [hf.row s hw.1, hf.row s hw.2.1, hf.row s hw.2.2.1, hf.row s hw.2.2.2.1, hf.row s hw.2.2.2.2.1, hf.row s hw.2.2.2.2.2]
  exact h
theorem know_163 {D : DD} (hW : WF D) {n : Nat} (hn : n ≤ dN D 1) : ∀ (m i : Nat) (σ : Mm), dN D 1 - i < m → i ≤ dN D 1 → RCf σ 0 D → VR D n (dN D 1) σ → GA D n i σ → Ok (F_X2_know_163 m 0 (nI n) (nI i) σ) (GA D n (dN D 1)) := by
  have h60 := hW.2.1
  intro m
  induction m with
  | zero => intro i σ h; omega
  | succ m ih =>
    intro i σ hm hi hf hv hg
    change Ok (B_X2_know_163 (F_X2_know_163 m) _ _ _ _) _
    unfold B_X2_know_163 F_X2_know_196 F_X2_know_197 F_X2_know_200
    rw [hf.1, nI_1]
    by_cases hd : dN D 1 ≤ i
    · have e : i = dN D 1 := by omega
      subst e
      exact Ok_t (nI_le hd (by omega)) (Ok_r hg)
    refine Ok_f (nI_ge (by omega) (by omega)) ?_
    have hi2 : i < dN D 1 := by omega
    obtain ⟨f1, f2, f3, f4, f5⟩ := hf.2.2 i hi2
    obtain ⟨t, ht14, hab⟩ : ∃ t : Nat, t < 14 ∧ (dA D 4 i ≠ 4 → dA D 5 i = nI t ∧ (dA D 4 i = 0 → t = dN D 0 + cntF (D.2.1 4) i) ∧ (dA D 4 i ≠ 0 → t < dN D 0 + cntF (D.2.1 4) i)) := by
      by_cases c : dA D 4 i = 4
      · exact ⟨0, by omega, fun z => absurd c z⟩
      · obtain ⟨a, h1, h2, h3, h4⟩ := wf_about hW hi2 c
        exact ⟨a, h1, fun _ => ⟨h2, h3, h4⟩⟩
    have go : ∀ hb : Int32, hb = (if liv D n i then 1 else 0) → Ok (bnv (F_X2_apply 0 (nI i) hb σ) fun τ => F_X2_know_163 m 0 (nI n) (nI (i + 1)) τ) (GA D n (dN D 1)) := by
      intro hb hh
      refine Ok_V ((s_apply (hb := hb) (by omega) ht14 f1 (fun z => f2.trans (hab z).1) f3 f4 f5 (wf_kind hW hi2)).frV fr_X2_apply) (fun τ hτ => ?_)
      obtain ⟨⟨r0, r1, r2, r3, r4, r5⟩, fr⟩ := hτ
      refine ih (i + 1) τ (by omega) (by omega) (hf.fr fr rfl) ?_ (GA_step hW hi2 hg ht14 hab hh r0 r1 r2 r3 r4 r5)
      intro k hk
      rw [fr.row (t := 0) (k := 21) 0 rfl]
      exact hv k hk
    have hmin : min (dN D 1) n = n := by omega
    by_cases c : n ≤ i
    · refine Ok_t (nI_le c (by omega)) (go 0 ?_)
      unfold liv
      rw [decide_eq_false (by omega)]; rfl
    · have hc60 : (nI i).toNatClampNeg = i := nI_clamp (by omega)
      have i60 : inb (nI i) 60 = true := by
        have : i < 60 := by omega
        clear ih hg hv hf go hab f1 f2 f3 f4 f5 hW; grind [gI, gB, gC]
      refine Ok_f (nI_ge (by omega) (by omega)) (Ok_t i60 ?_)
      rw [hc60, hv i hi2, hmin]
      cases hvd : vd D i n with
      | true =>
        refine Ok_f (by decide) (go 0 ?_)
        unfold liv; rw [hvd, decide_eq_true (by omega)]; rfl
      | false =>
        refine Ok_t (by decide) (go 1 ?_)
        unfold liv; rw [hvd, decide_eq_true (by omega)]; rfl
theorem know_95 {D : DD} (hW : WF D) {n : Nat} (hn : n ≤ dN D 1) : ∀ (m i : Nat) (σ : Mm), dN D 1 - i < m → i ≤ dN D 1 → RCf σ 0 D → VR D n i σ → GA D n 0 σ → Ok (F_X2_know_95 m 0 (nI n) (nI i) σ) (GA D n (dN D 1)) := by
  have h60 := hW.2.1
  have z0 : vp_nar .boolean 0 = 0 := by decide
  have z1 : vp_nar .boolean 1 = 1 := by decide
  intro m
  induction m with
  | zero => intro i σ h; omega
  | succ m ih =>
    intro i σ hm hi hf hv hg
    change Ok (B_X2_know_95 (F_X2_know_95 m) _ _ _ _) _
    unfold B_X2_know_95 F_X2_know_112 F_X2_know_154
    rw [hf.1, nI_1, z0, z1]
    by_cases hd : dN D 1 ≤ i
    · have e : i = dN D 1 := by omega
      subst e
      exact Ok_t (nI_le hd (by omega)) (know_163 hW hn FU 0 σ (by show _ < 1000000; omega) (by omega) hf hv hg)
    have hi2 : i < dN D 1 := by omega
    have hc60 : (nI i).toNatClampNeg = i := nI_clamp (by omega)
    have i60 : inb (nI i) 60 = true := by
      have : i < 60 := by omega
      clear ih hg hv hf hW; grind [gI, gB, gC]
    obtain ⟨f1, f2, f3, f4, f5⟩ := hf.2.2 i hi2
    refine Ok_f (nI_ge (by omega) (by omega)) (Ok_t i60 ?_)
    rw [hc60]
    have e1 : mA (setA σ 0 0 21 (upd (mA σ 0 0 21) i 0)) 2 0 1 i = dA D 4 i := by simp only [mA_A, mL_A, mP_A, mA_L, mL_L, mP_L, upd_at]; simp; exact f1
    have e2 : mA (setA σ 0 0 21 (upd (mA σ 0 0 21) i 0)) 2 0 2 i = dA D 5 i := by simp only [mA_A, mL_A, mP_A, mA_L, mL_L, mP_L, upd_at]; simp; exact f2
    have hf1 : RCf (setA σ 0 0 21 (upd (mA σ 0 0 21) i 0)) 0 D := hf.fr (W := [(0, 21, 999)]) (Fr.AA Fr_r rfl) rfl
    have hg1 : GA D n 0 (setA σ 0 0 21 (upd (mA σ 0 0 21) i 0)) := by
      unfold GA; simp only [mA_R]; exact hg
    have plain : (∀ k, k < i + 1 → (vd D k (min (i + 1) n) = vd D k (min i n))) → Ok (F_X2_know_95 m 0 (nI n) (nI (i + 1)) (setA σ 0 0 21 (upd (mA σ 0 0 21) i 0))) (GA D n (dN D 1)) := by
      intro he
      refine ih (i + 1) _ (by omega) (by omega) hf1 (fun k hk => ?_) hg1
      rw [he k hk]
      simp only [mA_A, mL_A, mP_A, mA_L, mL_L, mP_L, upd_at]
      simp only [and_self, if_true]
      by_cases hki : k = i
      · subst hki; rw [if_pos rfl, vd_early hW (by omega) (by omega) (by omega)]; rfl
      · rw [if_neg hki]; exact hv k (by omega)
    rw [e1, e2]
    by_cases c : n ≤ i
    · refine Ok_t (nI_le c (by omega)) (plain fun k _ => ?_)
      rw [show min (i + 1) n = n by omega, show min i n = n by omega]
    · have hmin : min (i + 1) n = i + 1 := by omega
      have hmin2 : min i n = i := by omega
      refine Ok_f (nI_ge (by omega) (by omega)) (Ok_t i60 ?_)
      by_cases c4 : dA D 4 i = 4
      · obtain ⟨a, ha, e⟩ := wf_void hW hi2 c4
        have hca : (nI a).toNatClampNeg = a := nI_clamp (by omega)
        have a60 : inb (nI a) 60 = true := by
          have : a < 60 := by omega
          clear ih hg hv hf hW e1 e2 hf1 hg1 plain f1 f2 f3 f4 f5; grind [gI, gB, gC]
        rw [e]
        refine Ok_t c4 (Ok_t i60 (Ok_f (nI_ge ha (by omega)) (Ok_t i60 (Ok_t a60 ?_))))
        rw [hca]
        refine ih (i + 1) _ (by omega) (by omega) (hf1.fr (W := [(0, 21, 999)]) (Fr.AA Fr_r rfl) rfl) (fun k hk => ?_) ?_
        · rw [hmin]
          have ev : vd D k (i + 1) = (vd D k i || decide (dA D 4 i = 4 ∧ dA D 5 i = nI k)) := rfl
          simp only [mA_A, mL_A, mP_A, mA_L, mL_L, mP_L, upd_at]
          simp only [and_self, if_true]
          by_cases hka : k = a
          · subst hka
            rw [if_pos rfl, ev, decide_eq_true ⟨c4, e⟩, Bool.or_true]; rfl
          · rw [if_neg hka, ev, decide_eq_false, Bool.or_false]
            · by_cases hki : k = i
              · subst hki; rw [if_pos rfl, vd_early hW (by omega) (by omega) (by omega)]; rfl
              · rw [if_neg hki]
                have := hv k (by omega)
                rw [hmin2] at this; exact this
            · rintro ⟨-, z⟩
              rw [e] at z
              exact hka ((nI_eq (by omega) (by omega)).mp z).symm
        · unfold GA; simp only [mA_R]; exact hg
      · refine Ok_f c4 (plain fun k _ => ?_)
        rw [hmin, hmin2]
        show (vd D k i || decide (dA D 4 i = 4 ∧ dA D 5 i = nI k)) = _
        rw [decide_eq_false (fun z => c4 z.1), Bool.or_false]
theorem know_71 {D : DD} (hW : WF D) {n : Nat} (hn : n ≤ dN D 1) : ∀ (m i : Nat) (σ : Mm), 14 - i < m → i ≤ 14 → RCf σ 0 D → mA σ 0 0 15 0 = nI (dN D 0) → (∀ t, t < dN D 0 → mA σ 0 0 16 t = dA D 0 t ∧ mA σ 0 0 17 t = dA D 1 t ∧ mA σ 0 0 18 t = dA D 2 t ∧ mA σ 0 0 19 t = dA D 3 t) → (∀ t, t < i → mA σ 0 0 20 t = 0) → Ok (F_X2_know_71 m 0 (nI n) (nI i) σ) (GA D n (dN D 1)) := by
  have z0 : vp_nar .boolean 0 = 0 := by decide
  have h14 : dN D 0 ≤ 14 := by have h1 : nT D ≤ 14 := hW.1; unfold nT at h1; omega
  have h60 := hW.2.1
  intro m
  induction m with
  | zero => intro i σ h; omega
  | succ m ih =>
    intro i σ hm hi hf h0 hr hl
    change Ok (B_X2_know_71 (F_X2_know_71 m) _ _ _ _) _
    unfold B_X2_know_71 F_X2_know_86
    rw [nI_1, z0]
    by_cases hd : 14 ≤ i
    · refine Ok_t (show (14 : Int32) ≤ nI i from nI_le (a := 14) hd (by omega)) (know_95 hW hn FU 0 σ (by show _ < 1000000; omega) (by omega) hf (fun k hk => absurd hk (by omega)) ⟨h0, fun t ht => ?_⟩)
      have ht0 : t < dN D 0 := ht
      obtain ⟨a, b, c, d⟩ := hr t ht0
      have hfx : ∀ q, fx D t q = none := fun q => fx_none (Or.inl ht0)
      unfold eI nI' aI gI' kS bas lst
      simp only [hfx]
      exact ⟨a, b, c, d, hl t (by omega)⟩
    · have hci : (nI i).toNatClampNeg = i := nI_clamp (by omega)
      have i14 : inb (nI i) 14 = true := by
        have : i < 14 := by omega
        clear ih hr hl hf hW h0; grind [gI, gB, gC]
      refine Ok_f (show ¬ (14 : Int32) ≤ nI i from nI_ge (b := 14) (by omega) (by decide)) (Ok_t i14 ?_)
      rw [hci]
      refine ih (i + 1) _ (by omega) (by omega) (hf.fr (W := [(0, 20, 999)]) (Fr.AA Fr_r rfl) rfl) ?_ (fun t ht => ?_) (fun t ht => ?_)
      · simp only [mA_A, mL_A, mP_A, mA_L, mL_L, mP_L, upd_at]; simp; exact h0
      · simp only [mA_A, mL_A, mP_A, mA_L, mL_L, mP_L, upd_at]; simp; exact hr t ht
      · simp only [mA_A, mL_A, mP_A, mA_L, mL_L, mP_L, upd_at]; simp
        intro e
        exact hl t (by omega)
/-- the ground as known by n -/
def GK (D : DD) (n : Nat) (σ : Mm) : Prop := mA σ 0 0 15 0 = nI (nT D) ∧ ∀ t, t < nT D → mA σ 0 0 16 t = kE D n t ∧ mA σ 0 0 17 t = kN D n t ∧ mA σ 0 0 18 t = kA D n t ∧ mA σ 0 0 19 t = kS D t ∧ mA σ 0 0 20 t = if kG D n t then 1 else 0
theorem s_know {D : DD} (hW : WF D) {n i : Nat} {σ : Mm} (hn : n ≤ dN D 1) (hC : RC σ i 0 D) : Ok (F_X2_know i 0 (nI n) σ) (GK D n) := by
  have h14 : dN D 0 ≤ 14 := by have h1 : nT D ≤ 14 := hW.1; unfold nT at h1; omega
  have e14 : (14 : Int32).toNatClampNeg = 14 := rfl
  have key : Ok (F_X2_know i 0 (nI n) σ) (GA D n (dN D 1)) := by
    unfold F_X2_know F_X2_know_8 F_X2_know_23 F_X2_know_38 F_X2_know_53 F_X2_know_68
    simp only [c0, e14, mA_R]
    simp
    refine know_71 hW hn FU 0 _ (by show _ < 1000000; omega) (by omega) ?_ ?_ (fun t ht => ?_) (fun t ht => absurd ht (by omega))
    · refine hC.2.2.2.2.2.2.2.fr (W := [(0, 15, 0), (0, 16, 999), (0, 17, 999), (0, 18, 999), (0, 19, 999)]) ?_ rfl
      exact Fr.AA (Fr.AA (Fr.AA (Fr.AA (Fr.A Fr_r rfl) rfl) rfl) rfl) rfl
    · simp only [mA_A, mL_A, mP_A, mA_L, mL_L, mP_L, upd_at]; simp; exact hC.1.2.1
    · obtain ⟨a, b, c, d⟩ := hC.2.1 t ht
      have : t < 14 := by omega
      simp only [mA_A, mL_A, mP_A, mA_L, mL_L, mP_L, upd_at]
      simp
      rw [sb_cpy0 this, sb_cpy0 this, sb_cpy0 this, sb_cpy0 this]
      exact ⟨a, b, c, d⟩
  refine key.mono fun τ h => ⟨h.1, fun t ht => ?_⟩
  obtain ⟨a, b, c, d, e⟩ := h.2 t ht
  unfold eI at a
  unfold nI' at b
  unfold aI at c
  unfold gI' at e
  rw [lst_ge hn] at a b c e
  exact ⟨a, b, c, d, e⟩
