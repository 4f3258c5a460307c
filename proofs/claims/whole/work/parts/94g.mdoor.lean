/-! the model's doors -/
def fN (T : Tk) : List (Nat × Int32) → Nat → Int32
  | [], _ => -1
  | e :: r, y => if tC T e.1 = tC T y then (if e.2 < 0 then fN T r y else e.2) else fN T r y
theorem fC_eq {T : Tk} {y y' : Nat} : ∀ (L : List Nat) (s : Nat), s + L.length < 1000 → fC T L s y ≠ -1 → fC T L s y = fC T L s y' → tC T y = tC T y' := by
  intro L
  induction L with
  | nil => intro s _ h; exact absurd rfl h
  | cons x L ih =>
    intro s hs h he
    rw [List.length_cons] at hs
    have far : ∀ z, fC T L (s + 1) z ≠ nI s := by
      intro z hz
      rcases fC_nat (T := T) (y := z) L (s + 1) with h1 | ⟨t, t1, t2, h1⟩
      · rw [h1] at hz
        have : ¬ nI s < 0 := nI_nlt (b := 0) (Nat.zero_le _) (by omega)
        rw [← hz] at this
        exact this (by decide)
      · rw [h1] at hz
        have := (nI_eq (by omega) (by omega)).mp hz
        omega
    have e1 : ∀ z, fC T (x :: L) s z = if tC T (x + 1) = tC T z then nI s else fC T L (s + 1) z := fun _ => rfl
    rw [e1] at h
    rw [e1, e1] at he
    by_cases c1 : tC T (x + 1) = tC T y
    · rw [if_pos c1] at he
      by_cases c2 : tC T (x + 1) = tC T y'
      · rw [← c1, c2]
      · rw [if_neg c2] at he; exact absurd he.symm (far y')
    · rw [if_neg c1] at he h
      by_cases c2 : tC T (x + 1) = tC T y'
      · rw [if_pos c2] at he; exact absurd he (far y)
      · rw [if_neg c2] at he
        exact ih (s + 1) (by omega) h he
theorem m_at {T : Tk} {p y : Nat} {σ0 σ : Mm} {X : Xt} {B : Option (Nat × Nat)} (hA : AN T σ0) (hX : nkX T X) (hL : (qL X).length < 20) (hy : y ≤ 400) (hgy : gTk T y) (hky : tK T y = 2) (hK : MK T σ0 p σ) (hN : mNa T σ X) (hB : mBl T σ y B) : ∀ (n t : Nat), 21 - t < n → t ≤ (qL X).length →
    Ok (F_X12_thingAt_2 n (nI y) (nI t) σ) (fun q => q.1 = fN T ((qL X).drop t) y ∧ MK T σ0 p q.2 ∧ mBl T q.2 (y + 1) (if fN T ((qL X).drop t) y = -1 then bla B True 4 y else B) ∧ Fr W_X12_thingAt σ q.2) := by
  intro n
  induction n with
  | zero => intro t h; omega
  | succ n ih =>
    intro t hn ht
    change Ok (B_X12_thingAt_2 (F_X12_thingAt_2 n) _ _ _) _
    unfold B_X12_thingAt_2
    rw [hN.1]
    by_cases c : (qL X).length ≤ t
    · have e : t = (qL X).length := by omega
      subst e
      have hd : fN T ((qL X).drop (qL X).length) y = -1 := by rw [List.drop_length]; rfl
      rw [hd, if_pos rfl]
      refine Ok_t (nI_le c (by omega)) (Ok_V (s_tells (c := 4) hA hK hB ⟨by omega, by omega⟩ hy hgy) (fun τ hτ => ?_))
      unfold F_X12_thingAt_54
      exact Ok_r ⟨rfl, hτ.1, hτ.2.1, hτ.2.2⟩
    · have hlt : t < (qL X).length := by omega
      have it : inb (nI t) 20 = true := by
        clear hA hX hK hN hB ih; grind [gI, gB, gC]
      have hget : (qL X)[t]? = some (qL X)[t] := List.getElem?_eq_getElem hlt
      generalize he : (qL X)[t] = e at hget
      obtain ⟨ke, ge⟩ := hX t e hget
      have hdr : (qL X).drop t = e :: (qL X).drop (t + 1) := by rw [← he]; exact List.drop_eq_getElem_cons hlt
      refine Ok_f (fun z => nI_ge (a := t) (b := (qL X).length) hlt (by omega) z) (Ok_t it (Ok_t (ih1 hy).1 ?_))
      rw [nI_clamp (by omega), (ih1 hy).2, (hN.2 t e hget).1, (hN.2 t e hget).2, (hA.t hK.1 hy hgy).2.2.2.2 hky]
      unfold F_X12_thingAt_42
      rw [nI_1, hdr]
      have e1 : fN T (e :: (qL X).drop (t + 1)) y = if tC T e.1 = tC T y then (if e.2 < 0 then fN T ((qL X).drop (t + 1)) y else e.2) else fN T ((qL X).drop (t + 1)) y := rfl
      by_cases c2 : tC T e.1 = tC T y
      · refine Ok_t ((tM_iff hA.1 ge hgy ke hky).mpr c2) (Ok_t it ?_)
        rw [if_pos c2] at e1
        by_cases c3 : e.2 < 0
        · rw [if_pos c3] at e1
          rw [e1]
          exact Ok_t c3 (ih (t + 1) (by omega) (by omega))
        · rw [if_neg c3] at e1
          rw [e1]
          have hne : ¬ e.2 = -1 := fun z => c3 (by rw [z]; decide)
          rw [if_neg hne]
          exact Ok_f c3 (Ok_t it (Ok_r ⟨rfl, hK, hB.mono (by omega), Fr_r⟩))
      · rw [if_neg c2] at e1
        rw [e1]
        exact Ok_f (fun z => c2 ((tM_iff hA.1 ge hgy ke hky).mp z)) (ih (t + 1) (by omega) (by omega))
theorem m_tk2 {T : Tk} {p : Nat} {σ0 σ : Mm} {f : Int32 → Mm → Option (Int32 × Mm)} {Q : Int32 × Mm → Prop} (hA : AN T σ0) (h : MK T σ0 p σ)
    (h1 : ∀ τ, t1 T 2 p = .ok (p + 1) → MK T σ0 (p + 1) τ → Fr W_X12_takes σ τ → Ok (f 1 τ) Q) (h0 : ∀ e τ, t1 T 2 p = .error e → MF T σ0 e τ → Ok (f 0 τ) Q) : Ok (bnd (F_X12_takes 0 σ) f) Q := by
  refine Ok_B ((s_takes hA h (c := 2) (s := 0) (Or.inl ⟨rfl, rfl⟩)).frI fr_X12_takes) (fun v τ hv => ?_)
  obtain ⟨hv, f1⟩ := hv
  cases ht : t1 T 2 p with
  | error e =>
    rw [ht] at hv
    have hv1 : v = 0 := hv.1
    rw [hv1]; exact h0 e τ ht hv.2
  | ok q =>
    rw [ht] at hv
    obtain ⟨-, -, rfl⟩ := t1_ok ht
    have hv1 : v = 1 := hv.1
    rw [hv1]; exact h1 τ ht hv.2 f1
theorem m_door {T : Tk} {p : Nat} {σ0 σ : Mm} {X : Xt} (hA : AN T σ0) (h : MRX T σ0 X p σ) (hl : (qD X).length ≤ 8) (hlT : (qT X).length ≤ 14) (hX : nkX T X) (hL : (qL X).length < 20) (hfN : ∀ y, fN T (qL X) y = fC T (qT X) 0 y) (hk : tK T p = 18) : Ok (F_X12_tellDoor σ) (oTm T σ0 (tDo0 T X p)) := by
  obtain ⟨c, l, hcp, hlp, hK, hR⟩ := h
  have n14 : mA σ 3 0 14 1 = nI (qD X).length := hR.1.2.2.1
  have c1 : (1 : Int32).toNatClampNeg = 1 := rfl
  unfold F_X12_tellDoor tDo0
  rw [c1, n14]
  refine Ok_t (by decide) ?_
  by_cases cl : 8 ≤ (qD X).length
  · have e8 : (qD X).length = 8 := by omega
    rw [if_pos cl, e8]
    refine Ok_t rfl (Ok_B (s_wrong hA hK (x := 2) (Or.inr rfl)) (fun v τ hv => ?_))
    unfold F_X12_tellDoor_16
    have hv1 : v = 0 := hv.1
    exact Ok_t (by rw [hv1]; decide) (Ok_r hv)
  rw [if_neg cl]
  have lh : (qD X).length < 8 := by omega
  refine Ok_f (fun z => cl (by have := (kq (k := (qD X).length) (c := 8) (by omega) (by omega)).mp z; omega)) ?_
  rw [hK.2.1, show nI p + (1 : Int32) = nI (p + 1) from nI_1 p]
  have fin0 : ∀ e, tks T [18, 2, 2] p = .error e → ∀ τ, MF T σ0 e τ → oTm T σ0 (ebd (tks T [18, 2, 2] p) (fun q => .ok (addD T X p, q))) (0, τ) := by
    intro e he τ hτ
    rw [he]; exact ⟨rfl, hτ⟩
  have hts : tks T [18, 2, 2] p = ebd (t1 T 18 p) (fun q => ebd (t1 T 2 q) (fun q => ebd (t1 T 2 q) (fun q => .ok q))) := rfl
  refine m_pas hA hK hk (by omega) (fun τ1 t1e K1 f1 => ?_) (fun e τ he hF => ?_)
  · have f1 : Fr [(3, 0, 7), (3, 0, 8), (3, 0, 9)] σ τ1 := f1
    unfold F_X12_tellDoor_28
    refine Ok_f ne10 (m_tk2 hA K1 (fun τ2 t2e K2 f2 => ?_) (fun e τ he hF => ?_))
    · have f2 : Fr [(3, 0, 7), (3, 0, 8), (3, 0, 9)] τ1 τ2 := f2
      unfold F_X12_tellDoor_36
      refine Ok_f ne10 (m_tk2 hA K2 (fun τ3 t3e K3 f3 => ?_) (fun e τ he hF => ?_))
      · have f3 : Fr [(3, 0, 7), (3, 0, 8), (3, 0, 9)] τ2 τ3 := f3
        have F3 : Fr [(3, 0, 7), (3, 0, 8), (3, 0, 9)] σ τ3 := (f1.trans f2).trans f3
        unfold F_X12_tellDoor_44
        rw [c1, show mA τ3 3 0 14 1 = nI (qD X).length from by rw [F3.row (t := 3) (k := 14) 0 rfl]; exact n14, show (8 : Int32) + nI (qD X).length = nI (8 + (qD X).length) from nI_add 8 _]
        refine Ok_f ne10 (Ok_t (by decide) ?_)
        have ij : inb (nI (8 + (qD X).length)) 40 = true := by
          have : 8 + (qD X).length < 40 := by omega
          generalize 8 + (qD X).length = z at *
          clear hR hK hk n14 hA hX hL K1 K2 K3; grind [gI, gB, gC]
        have cj : (nI (8 + (qD X).length)).toNatClampNeg = 8 + (qD X).length := nI_clamp (by omega)
        have hk1 : tK T (p + 1) = 2 := (t1_ok t2e).1
        have hk2 : tK T (p + 2) = 2 := (t1_ok t3e).1
        have K3 : MK T σ0 (p + 3) τ3 := K3
        have hp2 : p + 2 ≤ 400 := by have := K3.2.2.1; omega
        have hg2 : gTk T (p + 2) := gTk_le K3.2.2.2.1 (by omega)
        have hg1 : gTk T (p + 1) := gTk_le K3.2.2.2.1 (by omega)
        have N3 : mNa T τ3 X := (hR.2.2.2.2.2.2.1).fr F3 rfl
        have B3 : mBl T τ3 (p + 1) (qB X) := ((hR.2.2.2.2.2.2.2.1).fr F3 rfl).mono (by omega)
        unfold F_X12_tellDoor_59 F_X12_thingAt
        refine Ok_B (m_at hA hX hL (by omega) hg1 hk1 K3 N3 B3 FU 0 (by show _ < 1000000; omega) (Nat.zero_le _)) (fun v1 τ4 hv1 => ?_)
        obtain ⟨e4, K4, B4, f4⟩ := hv1
        have f4 : Fr [(3, 0, 10), (3, 0, 11)] τ3 τ4 := f4
        rw [List.drop_zero, hfN] at e4 B4
        have e4 : v1 = fC T (qT X) 0 (p + 1) := e4
        have B4 : mBl T τ4 (p + 2) (if fC T (qT X) 0 (p + 1) = -1 then bla (qB X) True 4 (p + 1) else qB X) := B4
        unfold F_X12_tellDoor_69
        refine Ok_t ij ?_
        rw [cj, e4]
        generalize hw4 : setA τ4 3 0 15 (upd (mA τ4 3 0 15) (8 + (qD X).length) (fC T (qT X) 0 (p + 1))) = w4
        have g4 : Fr [(3, 15, 999)] τ4 w4 := by subst hw4; exact Fr_r.A rfl
        have R4 : ∀ t, mA w4 3 0 15 t = if t = 8 + (qD X).length then fC T (qT X) 0 (p + 1) else mA τ4 3 0 15 t := by intro t; subst hw4; simp only [mA_A, mL_A, mP_A, mA_L, mL_L, mP_L, upd_at]; simp
        have K4' : MK T σ0 (p + 3) w4 := K4.fr (by subst hw4; exact K4.1.A rfl (Or.inr ⟨show 8 ≤ _ by omega, show _ < 16 by omega⟩)) g4 rfl
        unfold F_X12_tellDoor_70
        rw [nI_1]
        show Ok (bnd (F_X12_thingAt_2 FU (nI (p + 2)) 0 w4) _) _
        refine Ok_B (m_at hA hX hL hp2 hg2 hk2 K4' ((N3.fr f4 rfl).fr g4 rfl) (B4.fr g4 rfl) FU 0 (by show _ < 1000000; omega) (Nat.zero_le _)) (fun v2 τ5 hv2 => ?_)
        obtain ⟨e5, K5, B5, f5⟩ := hv2
        have f5 : Fr [(3, 0, 10), (3, 0, 11)] w4 τ5 := f5
        rw [List.drop_zero, hfN] at e5 B5
        have e5 : v2 = fC T (qT X) 0 (p + 2) := e5
        unfold F_X12_tellDoor_82
        refine Ok_t ij ?_
        rw [cj, e5]
        generalize hw5 : setA τ5 3 0 16 (upd (mA τ5 3 0 16) (8 + (qD X).length) (fC T (qT X) 0 (p + 2))) = w5
        have g5 : Fr [(3, 16, 999)] τ5 w5 := by subst hw5; exact Fr_r.A rfl
        have R5 : ∀ t, mA w5 3 0 16 t = if t = 8 + (qD X).length then fC T (qT X) 0 (p + 2) else mA τ5 3 0 16 t := by intro t; subst hw5; simp only [mA_A, mL_A, mP_A, mA_L, mL_L, mP_L, upd_at]; simp
        have K5' : MK T σ0 (p + 3) w5 := K5.fr (by subst hw5; exact K5.1.A rfl (Or.inr ⟨show 8 ≤ _ by omega, show _ < 16 by omega⟩)) g5 rfl
        have F5 : Fr [(3, 0, 7), (3, 0, 8), (3, 0, 9), (3, 0, 10), (3, 0, 11), (3, 15, 999), (3, 16, 999)] σ w5 := (((F3.sub rfl).trans (f4.sub rfl)).trans ((g4.sub rfl).trans (f5.sub rfl))).trans (g5.sub rfl)
        have B5' := B5.fr g5 rfl
        have htsk : tks T [18, 2, 2] p = .ok (p + 3) := by rw [hts, t1e, ebd_k, t2e, ebd_k, t3e]; rfl
        rw [htsk, ebd_k]
        have done : ∀ τ, MK T σ0 (p + 3) τ → Fr [(3, 0, 10), (3, 0, 11)] w5 τ → mBl T τ (p + 3) (qB (addD T X p)) → Ok (F_X12_tellDoor_118 τ) (oTm T σ0 (.ok (addD T X p, p + 3))) := by
          intro τ k1 k2 k3
          unfold F_X12_tellDoor_118 F_X12_tellDoor_128
          rw [c1, show mA τ 3 0 14 1 = nI (qD X).length from by rw [k2.row (t := 3) (k := 14) 0 rfl, F5.row (t := 3) (k := 14) 0 rfl]; exact n14, nI_1]
          generalize hw6 : setA τ 3 0 14 (upd (mA τ 3 0 14) 1 (nI ((qD X).length + 1))) = w6
          have g6 : Fr [(3, 14, 999)] τ w6 := by subst hw6; exact Fr_r.A rfl
          have G : Fr [(3, 0, 7), (3, 0, 8), (3, 0, 9), (3, 0, 10), (3, 0, 11), (3, 15, 999), (3, 16, 999), (3, 14, 999)] σ w6 := ((F5.sub rfl).trans (k2.sub rfl)).trans (g6.sub rfl)
          obtain ⟨r1, r2, r3, r4, r5, r6, r7, r8, r9, r10⟩ := hR
          refine Ok_t (by decide) (Ok_t (by decide) (Ok_r ⟨rfl, c, l, by show c ≤ p + 3; omega, by show 3 * l ≤ p + 3; omega, k1.fr (by subst hw6; exact k1.1.A rfl (Or.inr ⟨by decide, by decide⟩)) g6 rfl, ⟨?_, ?_, ?_, ?_, ?_, ?_⟩, r2.fr G rfl, ?_, r4.fr G rfl, r5.fr G rfl, r6.fr G rfl, r7.fr G rfl, k3.fr g6 rfl, ?_, ?_⟩))
          · rw [G.row (t := 3) (k := 7) 0 rfl]; exact r1.1
          · rw [G.row (t := 3) (k := 8) 0 rfl]; exact r1.2.1
          · subst hw6
            show _ = nI (qD X ++ [_]).length
            rw [List.length_append]; simp only [mA_A, mL_A, mP_A, mA_L, mL_L, mP_L, upd_at]; simp
          · rw [G.row (t := 3) (k := 17) 0 rfl]; exact r1.2.2.2.1
          · rw [G.row (t := 3) (k := 21) 0 rfl]; exact r1.2.2.2.2.1
          · rw [G.row (t := 3) (k := 25) 0 rfl]; exact r1.2.2.2.2.2
          · intro t d hd h14
            rw [g6.row (t := 3) (k := 15) 0 rfl, k2.row (t := 3) (k := 15) 0 rfl, g5.row (t := 3) (k := 15) 0 rfl, f5.row (t := 3) (k := 15) 0 rfl, R4, f4.row (t := 3) (k := 15) 0 rfl, F3.row (t := 3) (k := 15) 0 rfl,
              g6.row (t := 3) (k := 16) 0 rfl, k2.row (t := 3) (k := 16) 0 rfl, R5, f5.row (t := 3) (k := 16) 0 rfl, g4.row (t := 3) (k := 16) 0 rfl, f4.row (t := 3) (k := 16) 0 rfl, F3.row (t := 3) (k := 16) 0 rfl]
            rcases getA (show (qD X ++ [doorOf (fC T (qT X) 0 (p + 1)) (fC T (qT X) 0 (p + 2))])[t]? = some d from hd) with hj | ⟨rfl, rfl⟩
            · have hlt := (List.getElem?_eq_some_iff.mp hj).1
              rw [if_neg (by omega), if_neg (by omega)]
              exact r3 t d hj h14
            · rw [if_pos rfl, if_pos rfl]
              rcases fC_nat (T := T) (y := p + 1) (qT X) 0 with a1 | ⟨a, a1, a2, a3⟩
              · rw [a1] at h14; exact absurd h14 (show ¬ (99 : Nat) < 14 by decide)
              rcases fC_nat (T := T) (y := p + 2) (qT X) 0 with b1 | ⟨b, b1, b2, b3⟩
              · rw [b1] at h14
                have : doorOf (fC T (qT X) 0 (p + 1)) (-1) = (99, 99) := by unfold doorOf; split <;> rfl
                rw [this] at h14; exact absurd h14 (show ¬ (99 : Nat) < 14 by decide)
              have na : ∀ z, z < 100 → ¬ nI z = -1 := by
                intro z hz e
                have : ¬ nI z < 0 := nI_nlt (b := 0) (Nat.zero_le _) (by omega)
                rw [e] at this; exact this (by decide)
              rw [a3, b3] at h14 ⊢
              unfold doorOf at h14 ⊢
              rw [if_neg (na a (by omega)), if_neg (na b (by omega))] at h14 ⊢
              by_cases cab : nI a = nI b
              · rw [if_pos cab] at h14; exact absurd h14 (show ¬ (99 : Nat) < 14 by decide)
              · rw [if_neg cab]
                exact ⟨congrArg nI (nI_clamp (n := a) (by omega)).symm, congrArg nI (nI_clamp (n := b) (by omega)).symm⟩
          · rw [G.row (t := 3) (k := 28) 0 rfl]; exact r9
          · rw [G.row (t := 3) (k := 31) 0 rfl]; exact r10
        unfold F_X12_tellDoor_83
        have r15 : mA w5 3 0 15 (8 + (qD X).length) = fC T (qT X) 0 (p + 1) := by
          rw [g5.row (t := 3) (k := 15) 0 rfl, f5.row (t := 3) (k := 15) 0 rfl, R4, if_pos rfl]
        rw [cj, r15]
        refine Ok_t ij ?_
        have hqB : qB (addD T X p) = if fC T (qT X) 0 (p + 1) = -1 then bla (qB X) True 4 (p + 1) else if fC T (qT X) 0 (p + 2) = -1 then bla (qB X) True 4 (p + 2) else bla (qB X) (fC T (qT X) 0 (p + 1) = fC T (qT X) 0 (p + 2)) 5 (p + 2) := rfl
        by_cases u1 : fC T (qT X) 0 (p + 1) = -1
        · refine Ok_t (by rw [u1]; decide) (done w5 K5' Fr_r ?_)
          rw [hqB, if_pos u1]
          rw [if_pos u1] at B5'
          have e : (if fC T (qT X) 0 (p + 2) = -1 then bla (bla (qB X) True 4 (p + 1)) True 4 (p + 2) else bla (qB X) True 4 (p + 1)) = bla (qB X) True 4 (p + 1) := by
            split
            · cases qB X with
              | none => rfl
              | some b => rw [bla_s, bla_s]
            · rfl
          rw [e] at B5'; exact B5'
        · rcases fC_nat (T := T) (y := p + 1) (qT X) 0 with a1 | ⟨a, a1, a2, a3⟩
          · exact absurd a1 u1
          have hn0 : ¬ fC T (qT X) 0 (p + 1) < 0 := by rw [a3]; exact nI_nlt (b := 0) (Nat.zero_le _) (by omega)
          rw [if_neg u1] at B5'
          rw [if_neg u1] at hqB
          refine Ok_f hn0 (Ok_t (ih1 (show p + 1 ≤ 400 by omega)).1 ?_)
          rw [nI_1, (ih1 (show p + 1 ≤ 400 by omega)).2]
          show Ok (if inb (nI (p + 2)) 2001 = true then _ else none) _
          refine Ok_t (ih1 hp2).1 ?_
          show Ok (if lg_cmp (mL w5 3 0 5 (p + 1)) (mL w5 3 0 5 (nI (p + 2)).toNatClampNeg) = 0 then _ else _) _
          rw [(ih1 hp2).2, (hA.t K5'.1 (show p + 1 ≤ 400 by omega) hg1).2.2.2.2 hk1, (hA.t K5'.1 hp2 hg2).2.2.2.2 hk2]
          by_cases cn : tC T (p + 1) = tC T (p + 2)
          · refine Ok_t ((tM_iff hA.1 hg1 hg2 hk1 hk2).mpr cn) ?_
            have same : ∀ (L : List Nat) s, fC T L s (p + 1) = fC T L s (p + 2) := by
              intro L
              induction L with
              | nil => intro s; rfl
              | cons x L ih =>
                intro s
                show (if tC T (x + 1) = tC T (p + 1) then nI s else fC T L (s + 1) (p + 1)) = if tC T (x + 1) = tC T (p + 2) then nI s else fC T L (s + 1) (p + 2)
                rw [cn, ih]
            have u2 : ¬ fC T (qT X) 0 (p + 2) = -1 := by rw [← same]; exact u1
            rw [if_neg u2] at B5' hqB
            have e5' : bla (qB X) (fC T (qT X) 0 (p + 1) = fC T (qT X) 0 (p + 2)) 5 (p + 2) = bla (qB X) True 5 (p + 2) := by
              unfold bla; rw [if_pos (same _ _), if_pos trivial]
            rw [e5'] at hqB
            have hB2 : mBl T w5 (p + 2) (qB X) := by
              have z := B5'
              cases hq : qB X with
              | none => rw [hq] at z; exact z
              | some b =>
                have hb := hR.2.2.2.2.2.2.2.1
                rw [hq] at hb z
                exact ⟨z.1, z.2.1, z.2.2.1, z.2.2.2.1, by have := hb.2.2.2.2; omega⟩
            refine Ok_V (s_tells (c := 5) hA K5' hB2 ⟨by omega, by omega⟩ hp2 hg2) (fun τ hτ => done τ hτ.1 hτ.2.2 ?_)
            rw [hqB]; exact hτ.2.1
          · refine Ok_f (fun z => cn ((tM_iff hA.1 hg1 hg2 hk1 hk2).mp z)) (done w5 K5' Fr_r ?_)
            rw [hqB]
            by_cases u2 : fC T (qT X) 0 (p + 2) = -1
            · rw [if_pos u2] at B5' ⊢; exact B5'
            · rw [if_neg u2] at B5' ⊢
              have : ¬ fC T (qT X) 0 (p + 1) = fC T (qT X) 0 (p + 2) := fun z => cn (fC_eq (qT X) 0 (by omega) u1 z)
              have e : bla (qB X) (fC T (qT X) 0 (p + 1) = fC T (qT X) 0 (p + 2)) 5 (p + 2) = qB X := if_neg this
              rw [e]; exact B5'
      · unfold F_X12_tellDoor_44
        refine Ok_t rfl (Ok_r (fin0 e ?_ τ hF))
        rw [hts, t1e, ebd_k, t2e, ebd_k, he]; rfl
    · unfold F_X12_tellDoor_36
      refine Ok_t rfl (Ok_r (fin0 e ?_ τ hF))
      rw [hts, t1e, ebd_k, he]; rfl
  · unfold F_X12_tellDoor_28
    refine Ok_t rfl (Ok_r (fin0 e ?_ τ hF))
    rw [hts, he]; rfl
