/-! alone, the model -/
def T59 (σ : Mm) (m : Nat) : Nat := (mA σ 3 0 59 m).toNatClampNeg
def TM (A : Nat → Nat → Bool) (σ : Mm) (M : Nat) : Prop := ∀ k, k < M → mA σ 3 0 59 k = nI (T59 σ k) ∧ MM A (fun x => k.testBit x = true) (T59 σ k) ∧ T59 σ k ≤ k
theorem alone_207 {A : Nat → Nat → Bool} {all free a rest : Nat} {σ : Mm} {Q : Int32 × Mm → Prop} {rc : Int32 → Int32 → Mm → Option (Int32 × Mm)} (ha : a < 14) (hA : A = adjR (mA σ 3 0 60)) (hT : TM A σ free) (hf : free < 2 ^ 14) (hr : rest < free)
    (hrc : ∀ v, LI A (T59 σ) a rest 14 v → v ≤ free → Ok (rc (nI all) (nI (free + 1)) (setA σ 3 0 59 (upd (mA σ 3 0 59) free (nI v)))) Q) : ∀ (m b v : Nat), 14 - b < m → b ≤ 14 → v ≤ free → LI A (T59 σ) a rest b v → Ok (F_X12_alone_207 rc m (nI all) (nI free) (nI a) (nI rest) (nI v) (nI b) σ) Q := by
  have e14 : (2 : Nat) ^ 14 = 16384 := by decide
  have ja : inb (nI a) 14 = true := by clear hrc hT hA; grind [gI, gB, gC]
  have ca : (nI a).toNatClampNeg = a := nI_clamp (by omega)
  have cf : (nI free).toNatClampNeg = free := nI_clamp (by omega)
  have jf : inb (nI free) 16384 = true := by
    have : free < 16384 := by omega
    clear hrc hT hA; grind [gI, gB, gC]
  intro m
  induction m with
  | zero => intro b v h; omega
  | succ m ih =>
    intro b v hm hb hv hL
    change Ok (B_X12_alone_207 rc (F_X12_alone_207 rc m) _ _ _ _ _ _ _) _
    unfold B_X12_alone_207
    by_cases hd : 14 ≤ b
    · have e : b = 14 := by omega
      subst e
      refine Ok_t (by decide) (Ok_t jf ?_)
      unfold F_X12_alone_286
      rw [cf, nI_1]
      exact hrc v hL hv
    refine Ok_f (show ¬ (14 : Int32) ≤ nI b from nI_ge (b := 14) (by omega) (by decide)) ?_
    unfold F_X12_alone_271
    have hbr : bt (nI rest) b = rest.testBit b := bt_nI (by omega)
    rw [bt_test (by omega), hbr, ca, bt_test (by omega), nI_1]
    by_cases c1 : rest.testBit b = true
    · refine Ok_f (by rw [if_pos c1]; decide) (Ok_t ja ?_)
      have hAab : A a b = bt (mA σ 3 0 60 a) b := by rw [hA]; unfold adjR; rw [decide_eq_true ha, Bool.true_and]
      by_cases c2 : bt (mA σ 3 0 60 a) b = true
      · have hcl : clr rest b < free := Nat.lt_of_le_of_lt clr_le hr
        have hcl2 := clr_lt (m := rest) (b := b) (by omega) (by omega) c1
        obtain ⟨t1, t2, t3⟩ := hT _ hcl
        have jc : inb (nI (clr rest b)) 16384 = true := by
          have : clr rest b < 16384 := by omega
          generalize clr rest b = z at *
          clear hrc hT hA ih hL t1 t2 t3 hcl2; grind [gI, gB, gC]
        refine Ok_f (by rw [if_pos c2]; decide) ?_
        rw [nI_clr (by omega)]
        refine Ok_t jc ?_
        rw [nI_clamp (by omega), t1]
        unfold F_X12_alone_260 F_X12_alone_271
        rw [nI_1, nI_1]
        have hle : T59 σ (clr rest b) + 1 ≤ free := by omega
        by_cases c3 : T59 σ (clr rest b) + 1 ≤ v
        · refine Ok_t (nI_le c3 (by omega)) (ih (b + 1) v (by omega) (by omega) hv (hL.yes c1 (hAab.trans c2) ?_))
          rw [if_neg (by omega)]
        · refine Ok_f (nI_ge (by omega) (by omega)) (ih (b + 1) _ (by omega) (by omega) hle (hL.yes c1 (hAab.trans c2) ?_))
          rw [if_pos (by omega)]
      · refine Ok_t (by rw [if_neg c2]) (ih (b + 1) v (by omega) (by omega) hv (hL.no (fun z => c2 (hAab ▸ z.2))))
    · refine Ok_t (by rw [if_neg c1]) (ih (b + 1) v (by omega) (by omega) hv (hL.no (fun z => c1 z.1)))
theorem alone_165 {all free : Nat} {σ : Mm} {Q : Int32 × Mm → Prop} {rc : Int32 → Int32 → Mm → Option (Int32 × Mm)} (h0 : 0 < free) (hf : free < 2 ^ 14)
    (hrc : ∀ a, a < 14 → free.testBit a = true → (∀ x, x < a → free.testBit x = false) → Ok (F_X12_alone_192 rc (nI all) (nI free) (nI a) (nI (clr free a)) σ) Q) : ∀ (m a : Nat), 14 - a < m → a ≤ 14 → (∀ x, x < a → free.testBit x = false) → Ok (F_X12_alone_165 rc m (nI all) (nI free) (nI a) σ) Q := by
  have e14 : (2 : Nat) ^ 14 = 16384 := by decide
  intro m
  induction m with
  | zero => intro b h; omega
  | succ m ih =>
    intro a hm ha hx
    change Ok (B_X12_alone_165 rc (F_X12_alone_165 rc m) _ _ _ _) _
    unfold B_X12_alone_165
    have a14 : a < 14 := by
      apply Nat.lt_of_not_le
      intro z
      have : free = 0 := Nat.eq_of_testBit_eq fun i => by
        rw [Nat.zero_testBit]
        by_cases c : i < a
        · exact hx i c
        · exact Nat.testBit_lt_two_pow (Nat.lt_of_lt_of_le hf (Nat.pow_le_pow_right (by decide) (by omega)))
      omega
    rw [bt_test (by omega), bt_nI (by omega), nI_1]
    by_cases c : free.testBit a = true
    · refine Ok_f (by rw [if_pos c]; decide) ?_
      rw [nI_clr (by omega)]
      exact hrc a a14 c hx
    · refine Ok_t (by rw [if_neg c]) (ih (a + 1) (by omega) (by omega) (fun x h => ?_))
      by_cases e : x = a
      · subst e
        cases h : free.testBit x
        · rfl
        · exact absurd h c
      · exact hx x (by omega)
theorem alone_155 {A : Nat → Nat → Bool} (hs : ∀ a b, A a b = A b a) {all : Nat} (hall : all ≤ 2 ^ 14) : ∀ (m free : Nat) (σ : Mm), all - free < m → 1 ≤ free → free ≤ all → A = adjR (mA σ 3 0 60) → TM A σ free → Ok (F_X12_alone_155 m (nI all) (nI free) σ) (fun q => ∃ v, q.1 = nI v ∧ MM A (fun x => (all - 1).testBit x = true) v) := by
  have e14 : (2 : Nat) ^ 14 = 16384 := by decide
  intro m
  induction m with
  | zero => intro b σ h; omega
  | succ m ih =>
    intro free σ hm h1 hfr hA hT
    change Ok (B_X12_alone_155 (F_X12_alone_155 m) _ _ _) _
    unfold B_X12_alone_155
    by_cases hd : all ≤ free
    · have e : free = all := by omega
      subst e
      have jf : inb (nI (free - 1)) 16384 = true := by
        have : free - 1 < 16384 := by omega
        generalize free - 1 = z at *
        clear ih hT hA; grind [gI, gB, gC]
      obtain ⟨t1, t2, t3⟩ := hT (free - 1) (by omega)
      rw [show nI free - 1 = nI (free - 1) from pk_sub (b := 1) h1]
      refine Ok_t (nI_le hd (by omega)) (Ok_t jf ?_)
      rw [nI_clamp (by omega), t1]
      exact Ok_r ⟨_, rfl, t2⟩
    refine Ok_f (nI_ge (by omega) (by omega)) ?_
    have hf14 : free < 2 ^ 14 := by omega
    refine alone_165 (by omega) hf14 (fun a ha hbit hlow => ?_) FU 0 (by show _ < 1000000; omega) (by omega) (fun x hx => absurd hx (by omega))
    have hr : clr free a < free := clr_lt (by omega) (by omega) hbit
    obtain ⟨t1, t2, t3⟩ := hT _ hr
    unfold F_X12_alone_192
    have jc : inb (nI (clr free a)) 16384 = true := by
      have : clr free a < 16384 := by omega
      generalize clr free a = z at *
      clear ih hT hA t1 t2 t3; grind [gI, gB, gC]
    refine Ok_t jc ?_
    rw [nI_clamp (by omega), t1, show nI a + 1 = nI (a + 1) from nI_1 a]
    have hct : ∀ x, (clr free a).testBit x = (free.testBit x && !decide (x = a)) := fun x => clr_tb (by omega) (by omega)
    refine alone_207 ha hA hT hf14 hr (fun v hL hv => ?_) FU (a + 1) _ (by show _ < 1000000; omega) (by omega) (by omega) ⟨Nat.le_refl _, fun b hb hb2 => ?_, Or.inl rfl⟩
    · refine ih (free + 1) _ (by omega) (by omega) (by omega) (by rw [mA_R, if_neg (by decide)]; exact hA) (fun k hk => ?_)
      have hTk : ∀ k, T59 (setA σ 3 0 59 (upd (mA σ 3 0 59) free (nI v))) k = if k = free then v else T59 σ k := by
        intro k
        unfold T59
        rw [mA_A, if_pos ⟨rfl, rfl, rfl⟩, upd_at]
        by_cases c : k = free
        · rw [if_pos c, if_pos c, nI_clamp (by omega)]
        · rw [if_neg c, if_neg c]
      rw [hTk, mA_A, if_pos ⟨rfl, rfl, rfl⟩, upd_at]
      by_cases c : k = free
      · rw [if_pos c, if_pos c, c]
        refine ⟨rfl, hL.mm hs (M := free) (by omega) hr (fun x => ?_) ?_ (fun b hb => ?_) (fun k hk => (hT k hk).2.1), hv⟩
        · rw [hct]
          by_cases cx : x = a
          · subst cx; simp [hbit]
          · simp [cx]
        · rw [hct]; simp
        · rw [hct] at hb
          simp only [Bool.and_eq_true] at hb
          apply Nat.lt_of_not_le
          intro z
          rw [Nat.testBit_lt_two_pow (Nat.lt_of_lt_of_le hf14 (Nat.pow_le_pow_right (by decide) z))] at hb
          cases hb.1
      · rw [if_neg c, if_neg c]
        exact hT k (by omega)
    · rw [hct] at hb2
      simp only [Bool.and_eq_true, Bool.not_eq_true', decide_eq_false_iff_not] at hb2
      have := hlow b (by omega)
      rw [this] at hb2
      cases hb2.1
theorem alone_45 {D : DD} (hW : WF D) {n : Nat} {y set : Int32} (hn : n ≤ dN D 1) : ∀ (m l : Nat) (σ : Mm), 196 - l < m → l ≤ 196 → RM σ 0 D → LSk D y (dN D 4) σ → MY D n (-1) σ → JN (fun x => x < l ∧ hlD D n y set x = true) (mA σ 3 0 60) →
    Ok (F_X12_alone_45 m set (nI l) σ) (fun q => ∃ v, q.1 = nI v ∧ MM (adjD D n y set) (fun _ => True) v) := by
  have e14 : (2 : Nat) ^ 14 = 16384 := by decide
  intro m
  induction m with
  | zero => intro l σ h; omega
  | succ m ih =>
    intro l σ hm hl hM hS hY hJ
    change Ok (B_X12_alone_45 (F_X12_alone_45 m) _ _ _) _
    unfold B_X12_alone_45
    by_cases hd : 196 ≤ l
    · have e : l = 196 := by omega
      subst e
      refine Ok_t (by decide) (Ok_t (by decide) ?_)
      have hJ2 : JN (fun x => hlD D n y set x = true) (mA σ 3 0 60) := hJ.cong fun x hx => ⟨fun z => z.2, fun z => ⟨hx, z⟩⟩
      have hT14 := hW.1
      have hpow : 2 ^ nT D ≤ 2 ^ 14 := Nat.pow_le_pow_right (by decide) hT14
      have hp1 : 1 ≤ 2 ^ nT D := Nat.one_le_two_pow
      rw [c0, hM.1.2.1, nI_shl (by omega)]
      unfold F_X12_alone_145 F_X12_alone_152
      refine Ok_t (by decide) ?_
      have hA : adjD D n y set = adjR (mA (setA σ 3 0 59 (upd (mA σ 3 0 59) (0 : Int32).toNatClampNeg 0)) 3 0 60) := by
        rw [mA_R, if_neg (by decide), adjR_eq hJ2]
      refine (alone_155 adjD_sym (A := adjD D n y set) hpow FU 1 _ (by show _ < 1000000; omega) (Nat.le_refl _) hp1 hA (fun k hk => ?_)).mono (fun q hq => ?_)
      · have : k = 0 := by omega
        subst this
        have h59 : mA (setA σ 3 0 59 (upd (mA σ 3 0 59) (0 : Int32).toNatClampNeg 0)) 3 0 59 0 = 0 := by
          rw [mA_A, if_pos ⟨rfl, rfl, rfl⟩, c0, upd_at, if_pos rfl]
        have hT0 : T59 (setA σ 3 0 59 (upd (mA σ 3 0 59) (0 : Int32).toNatClampNeg 0)) 0 = 0 := by
          unfold T59; rw [h59]; rfl
        have := TB.one (A := adjD D n y set) hT0 0 (by decide)
        rw [h59, hT0]
        rw [hT0] at this
        exact ⟨rfl, this.1, Nat.le_refl _⟩
      · obtain ⟨v, e, hv⟩ := hq
        refine ⟨v, e, MM.full (fun a b hab => ?_) hv⟩
        have hlt : ∀ x, hlD D n y set x = true → x / 14 < nT D ∧ x % 14 < nT D := fun x hx => by
          unfold hlD isL at hx
          simp only [Bool.and_eq_true, decide_eq_true_eq] at hx
          exact ⟨hx.1.1.2.1, hx.1.1.2.2.1⟩
        unfold adjD at hab
        simp only [Bool.and_eq_true, Bool.or_eq_true, decide_eq_true_eq] at hab
        obtain ⟨h1, h2, h3⟩ := hab
        rw [Nat.testBit_two_pow_sub_one, Nat.testBit_two_pow_sub_one, decide_eq_true_eq, decide_eq_true_eq]
        rcases h3 with h3 | h3
        · have := hlt _ h3; omega
        · have := hlt _ h3; omega
    have hl2 : l < 196 := by omega
    obtain ⟨d1, d2, d3, d4, d5, d6, d7, d8, -, -⟩ := nI14 hl2
    obtain ⟨-, y2, y3⟩ := hY l hl2
    refine Ok_f (show ¬ (196 : Int32) ≤ nI l from nI_ge (b := 196) (by omega) (by decide)) (Ok_t d8 ?_)
    unfold F_X12_alone_129
    rw [d7, y2, nI_1]
    cases hc : (isL D n l && hRule D n l (-1)) with
    | false =>
      refine Ok_t (by decide) (ih (l + 1) σ (by omega) (by omega) hM hS hY (hJ.cong fun x hx => ⟨fun z => ⟨by omega, z.2⟩, fun z => ⟨?_, z.2⟩⟩))
      by_cases e : x = l
      · subst e
        have := z.2
        unfold hlD at this
        rw [hc] at this
        cases this
      · omega
    | true =>
      have hL : isL D n l = true := by
        simp only [Bool.and_eq_true] at hc; exact hc.1
      refine Ok_f (by decide) (Ok_t d8 (Ok_t (by decide) ?_))
      rw [c0, hM.1.1, y3 hL, s_hitBy (s := 0) hW hM hS, bnd_s, show decide ((0 : Int32) ≠ 0) = false from by decide]
      unfold F_X12_alone_81 F_X12_alone_129
      have hst : hlD D n y set l = decide (HB D y (lDeg D n l) (nI (dN D 6)) false &&& set ≠ 0) := by
        unfold hlD str; rw [hc, Bool.true_and]
      rw [nI_1]
      by_cases h : HB D y (lDeg D n l) (nI (dN D 6)) false &&& set = 0
      · rw [decide_eq_false (not_not_intro h)] at hst
        refine Ok_t h (ih (l + 1) σ (by omega) (by omega) hM hS hY (hJ.cong fun x hx => ⟨fun z => ⟨by omega, z.2⟩, fun z => ⟨?_, z.2⟩⟩))
        by_cases e : x = l
        · subst e
          have := z.2
          rw [hst] at this
          cases this
        · omega
      · rw [decide_eq_true (p := _ ≠ (0 : Int32)) h] at hst
        refine Ok_f h ?_
        unfold F_X12_alone_109 F_X12_alone_129
        rw [d2, d1, nI_1]
        refine Ok_t d5 (Ok_t d5 (Ok_t d6 (Ok_t d6 ?_)))
        rw [d3, d4]
        have f : Fr [(3, 60, 999)] σ (setA (setA σ 3 0 60 (upd (mA σ 3 0 60) (l / 14) (mA σ 3 0 60 (l / 14) ||| ((1 : Int32) <<< (nI (l % 14) &&& 31))))) 3 0 60 (upd (mA (setA σ 3 0 60 (upd (mA σ 3 0 60) (l / 14) (mA σ 3 0 60 (l / 14) ||| ((1 : Int32) <<< (nI (l % 14) &&& 31))))) 3 0 60) (l % 14) (mA (setA σ 3 0 60 (upd (mA σ 3 0 60) (l / 14) (mA σ 3 0 60 (l / 14) ||| ((1 : Int32) <<< (nI (l % 14) &&& 31))))) 3 0 60 (l % 14) ||| ((1 : Int32) <<< (nI (l / 14) &&& 31))))) := (Fr_r.A rfl).A rfl
        refine ih (l + 1) _ (by omega) (by omega) (hM.fr (f.sub rfl)) (hS.fr f rfl) (hY.fr f rfl) ?_
        have e : ∀ (g : Nat → Int32) (τ : Mm), mA (setA τ 3 0 60 g) 3 0 60 = g := fun g τ => by rw [mA_R, if_pos ⟨rfl, rfl, rfl⟩]
        simp only [e]
        refine (hJ.join hl2).cong (fun x hx => ?_)
        constructor
        · rintro (z | z)
          · exact ⟨by omega, z.2⟩
          · subst z; exact ⟨by omega, hst⟩
        · rintro ⟨z1, z2⟩
          by_cases c : x = l
          · exact Or.inr c
          · exact Or.inl ⟨by omega, z2⟩
theorem alone_21 {σ0 : Mm} {set : Int32} {Q : Int32 × Mm → Prop} (hk : ∀ τ, Fr [(3, 60, 999)] σ0 τ → (∀ a, a < 14 → mA τ 3 0 60 a = 0) → Ok (F_X12_alone_45 FU set 0 τ) Q) : ∀ (m a : Nat) (σ : Mm), 14 - a < m → a ≤ 14 → Fr [(3, 60, 999)] σ0 σ → (∀ x, x < a → mA σ 3 0 60 x = 0) → Ok (F_X12_alone_21 m set (nI a) σ) Q := by
  intro m
  induction m with
  | zero => intro l σ h; omega
  | succ m ih =>
    intro a σ hm ha f hz
    change Ok (B_X12_alone_21 (F_X12_alone_21 m) _ _ _) _
    unfold B_X12_alone_21
    by_cases hc : 14 ≤ a
    · have e : a = 14 := by omega
      subst e
      exact Ok_t (by decide) (hk σ f hz)
    have hck : (nI a).toNatClampNeg = a := nI_clamp (by omega)
    have i14 : inb (nI a) 14 = true := by
      have : a < 14 := by omega
      clear ih hz hk f; grind [gI, gB, gC]
    refine Ok_f (show ¬ (14 : Int32) ≤ nI a from nI_ge (b := 14) (by omega) (by decide)) (Ok_t i14 ?_)
    unfold F_X12_alone_36
    rw [hck, nI_1]
    refine ih (a + 1) _ (by omega) (by omega) (f.A rfl) (fun e he => ?_)
    rw [mA_A, if_pos ⟨rfl, rfl, rfl⟩, upd_at]
    by_cases h : e = a
    · rw [if_pos h]
    · rw [if_neg h]; exact hz e (by omega)
theorem p_alone {h : Nat → Bool} {σ : Mm} (hI : Iv h σ) (set y n' : Int32) : ∃ (r : Int32) (σ1 : Mm) (σ2 : Mm), F_X11_alone set y n' σ = some (r, σ1) ∧ F_X12_alone set y n' σ1 = some (r, σ2) ∧ Iv h σ2 := by
  obtain ⟨D, hC, hM, hW⟩ := id hI.2.2.2.2.2
  have oP := okP_of hI.1
  have h60 := hW.2.1
  have hB : CB D σ := ⟨hI.1, hC⟩
  by_cases v1 : asK D set y n'
  · obtain ⟨n, hn, rfl⟩ := known_nat (by omega) v1.2.2
    have hcl : Ok (F_X11_alone set y (nI n) σ) (fun q => ∃ v, q.1 = nI v ∧ MM (adjD D n y set) (fun _ => True) v) := by
      unfold F_X11_alone F_X11_alone_19 F_X11_alone_26
      rw [if_pos oP, if_neg (fun z => (askedC hC).mp z v1)]
      refine Ok_V ((s_lookAt hW (Or.inl rfl) hn hB).frV fr_X11_lookAt) (fun τ hτ => ?_)
      obtain ⟨⟨-, hc, hS⟩, f⟩ := hτ
      have hB1 := hB.fr (f.sub rfl)
      refine Ok_V ((s_forgetJ (σ := τ)).frV fr_X4_forget) (fun υ hυ => ?_)
      obtain ⟨hz, f2⟩ := hυ
      refine (alone_29 hW hn (Q := fun q => ∃ v, q.1 = nI v ∧ MM (adjD D n y set) (fun _ => True) v) (fun φ hφ => s_most ?_) FU 0 υ (by
        have hlen := Ls_len (D := D) (n := n) (ρ := -1) 196 (Nat.le_refl _)
        show _ < 1000000; omega) (by omega) (hB1.fr (f2.sub rfl)) (hS.fr f2 rfl) (hc.fr f2 rfl) ((JN.zero hz).cong fun x _ => ⟨fun z => z.elim, fun ⟨⟨i, hi, _⟩, _⟩ => absurd hi (by omega)⟩)).mono (fun q hq => ?_)
      · unfold SQ
        rw [adjR_eq hφ]
        exact ⟨adjD_sym, fun a _ ha => absurd ha (by omega), fun v hv => hv⟩
      · obtain ⟨τ', v, e, hv⟩ := hq
        exact ⟨v, e, hv⟩
    obtain ⟨⟨r0, τ0⟩, e0, v, rfl, hv⟩ := hcl
    refine q_call hI fr_X11_alone rfl (nI v) ⟨_, e0, rfl⟩ (fun _ => fr_X12_alone) rfl (fun σ1 f1 => ?_)
    have hM1 : RM σ1 0 D := hM.fr (f1.sub rfl)
    unfold F_X12_alone F_X12_alone_7 F_X12_alone_18
    rw [isSetM hM1 v1, bnd_s, if_neg ne10]
    refine Ok_V ((s_layAll hW hn hM1).frV fr_X12_layAll) (fun τ hτ => ?_)
    obtain ⟨⟨hY, hS⟩, f⟩ := hτ
    have hM2 := hM1.fr (f.sub rfl)
    refine (alone_21 (σ0 := τ) (Q := fun q => ∃ w, q.1 = nI w ∧ MM (adjD D n y set) (fun _ => True) w) (fun υ f2 hz => ?_) FU 0 τ (by show _ < 1000000; omega) (by omega) Fr_r (fun x hx => absurd hx (by omega))).mono (fun q hq => ?_)
    · exact alone_45 hW hn FU 0 υ (by show _ < 1000000; omega) (by omega) (hM2.fr (f2.sub rfl)) (hS.fr f2 rfl) (hY.my.fr f2 rfl) ((JN.zero hz).cong fun x _ => ⟨fun z => z.elim, fun ⟨hi, _⟩ => absurd hi (by omega)⟩)
    · obtain ⟨w, e, hw⟩ := hq
      rw [e, hw.uniq hv]
  · refine ⟨-1, σ, σ, ?_, ?_, hI⟩
    · unfold F_X11_alone
      rw [if_pos oP, if_pos ((askedC hC).mpr v1)]
    · unfold F_X12_alone F_X12_alone_7
      rw [isSetMN hM v1, bnd_s, if_pos rfl]
