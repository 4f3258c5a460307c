/-! the model's TELLS, without their ends -/
def tTh0 (T : Tk) (X : Xt) (p : Nat) : Er (Xt × Nat) := if 14 ≤ (qT X).length then .error (2, p) else ebd (tks T [tK T p, 2, 3, 3, 3] p) (fun q => .ok (addT T X p, q))
def tHi0 (T : Tk) (X : Xt) (p : Nat) : Er (Xt × Nat) := if 12 ≤ (qH X).length then .error (2, p) else ebd (tks T [19, 3, 3, 3] p) (fun q => .ok (addH T X p, q))
def tNe0 (T : Tk) (X : Xt) (p : Nat) : Er (Xt × Nat) := ebd (tks T [22, 3] p) (fun q => .ok (addN T X p, q))
def tDo0 (T : Tk) (X : Xt) (p : Nat) : Er (Xt × Nat) := if 8 ≤ (qD X).length then .error (2, p) else ebd (tks T [18, 2, 2] p) (fun q => .ok (addD T X p, q))
def tSk0 (T : Tk) (X : Xt) (p : Nat) : Er (Xt × Nat) := if 5 ≤ (qS X).length then .error (2, p) else
  ebd (tks T [20, 2] p) (fun p2 => ebd (if tK T p2 = 21 then ebd (tks T [21, 3] p2) (fun q => .ok (true, q)) else .ok (false, p2)) (fun a =>
    ebd (t1 T 5 a.2) (fun q => ebd (xS T 7 q) (fun e => .ok (addS T X p a.1 e.1, e.2)))))
def tRu0 (T : Tk) (X : Xt) (p : Nat) : Er (Xt × Nat) := if 6 ≤ (qR X).length then .error (2, p) else
  ebd (tks T [23, 24] p) (fun p2 => ebd (xCond T p2) (fun a => .ok (addR X a.1, a.2)))
def tAll0 (T : Tk) (X : Xt) (p : Nat) : Er (Xt × Nat) := if tK T p = 16 ∨ tK T p = 17 then tTh0 T X p else if tK T p = 18 then tDo0 T X p else if tK T p = 19 then tHi0 T X p else if tK T p = 20 then tSk0 T X p else if tK T p = 22 then tNe0 T X p else if tK T p = 23 then tRu0 T X p else .error (1, p)
def end4 (T : Tk) (r : Er (Xt × Nat)) : Er (Xt × Nat) := ebd r (fun a => ebd (t1 T 4 a.2) (fun q => .ok (a.1, q)))
theorem ebd_as {α β γ : Type} {o : Er α} {f : α → Er β} {g : β → Er γ} : ebd (ebd o f) g = ebd o (fun a => ebd (f a) g) := by
  cases o <;> rfl
theorem tks_4 {T : Tk} : ∀ cs p, tks T (cs ++ [4]) p = ebd (tks T cs p) (fun q => t1 T 4 q) := by
  intro cs
  induction cs with
  | nil => intro p; show ebd (t1 T 4 p) (fun q => .ok q) = t1 T 4 p; cases t1 T 4 p <;> rfl
  | cons c cs ih =>
    intro p
    show ebd (t1 T c p) (fun q => tks T (cs ++ [4]) q) = ebd (ebd (t1 T c p) (fun q => tks T cs q)) _
    rw [ebd_as]
    congr 1
    funext q
    exact ih q
theorem end_tks {T : Tk} {X' : Xt} {cs : List Nat} {p : Nat} : ebd (tks T (cs ++ [4]) p) (fun q => (.ok (X', q) : Er (Xt × Nat))) = end4 T (ebd (tks T cs p) (fun q => .ok (X', q))) := by
  unfold end4
  rw [tks_4, ebd_as, ebd_as]
  rfl
theorem end4_if {T : Tk} {c : Prop} [Decidable c] {a b : Er (Xt × Nat)} : end4 T (if c then a else b) = if c then end4 T a else end4 T b := by
  split <;> rfl
theorem tAll_end {T : Tk} {X : Xt} {p : Nat} : tAll T X p = end4 T (tAll0 T X p) := by
  unfold tAll tAll0
  simp only [end4_if]
  have h1 : tTh T X p = end4 T (tTh0 T X p) := by
    unfold tTh tTh0; rw [end4_if]; congr 1; exact end_tks (cs := [tK T p, 2, 3, 3, 3])
  have h2 : tDo T X p = end4 T (tDo0 T X p) := by
    unfold tDo tDo0; rw [end4_if]; congr 1; exact end_tks (cs := [18, 2, 2])
  have h3 : tHi T X p = end4 T (tHi0 T X p) := by
    unfold tHi tHi0; rw [end4_if]; congr 1; exact end_tks (cs := [19, 3, 3, 3])
  have h4 : tSk T X p = end4 T (tSk0 T X p) := by
    unfold tSk tSk0; rw [end4_if]; congr 1; unfold end4; simp only [ebd_as]; rfl
  have h5 : tNe T X p = end4 T (tNe0 T X p) := by
    unfold tNe tNe0; exact end_tks (cs := [22, 3])
  have h6 : tRu T X p = end4 T (tRu0 T X p) := by
    unfold tRu tRu0; rw [end4_if]; congr 1; unfold end4; simp only [ebd_as]; rfl
  rw [h1, h2, h3, h4, h5, h6]
  rfl
theorem m_pas {T : Tk} {p c : Nat} {σ0 σ : Mm} {f : Int32 → Mm → Option (Int32 × Mm)} {Q : Int32 × Mm → Prop} (hA : AN T σ0) (h : MK T σ0 p σ) (hk : tK T p = c) (hc : 2 ≤ c)
    (h1 : ∀ τ, t1 T c p = .ok (p + 1) → MK T σ0 (p + 1) τ → Fr W_X12_pass σ τ → Ok (f 1 τ) Q) (h0 : ∀ e τ, t1 T c p = .error e → MF T σ0 e τ → Ok (f 0 τ) Q) : Ok (bnd (F_X12_pass σ) f) Q := by
  refine Ok_B ((s_pass hA h (by omega) (by omega)).frI fr_X12_pass) (fun v τ hv => ?_)
  obtain ⟨hv, f1⟩ := hv
  have e : t1 T c p = if p < 400 then .ok (p + 1) else .error (2, p) := if_pos hk
  by_cases c2 : p < 400
  · rw [if_pos c2] at hv e
    have hv1 : v = 1 := hv.1
    rw [hv1]
    exact h1 τ e hv.2 f1
  · rw [if_neg c2] at hv e
    have hv1 : v = 0 := hv.1
    rw [hv1]
    exact h0 _ τ e hv.2
theorem MK.fr {T : Tk} {σ0 σ τ : Mm} {p : Nat} {W : List (Nat × Nat × Nat)} (h : MK T σ0 p σ) (hI : MI σ0 τ) (hf : Fr W σ τ) (hw : (!(inW W 3 0 7) && (!(inW W 3 0 8) && !(inW W 3 0 9))) = true) : MK T σ0 p τ := by
  simp only [Bool.and_eq_true, Bool.not_eq_true'] at hw
  refine ⟨hI, ?_, h.2.2.1, h.2.2.2.1, ?_⟩
  · rw [hf.fld (t := 3) (k := 0) (f := 7) 0 hw.1]; exact h.2.1
  · rw [hf.fld (t := 3) (k := 0) (f := 8) 0 hw.2.1, hf.fld (t := 3) (k := 0) (f := 9) 0 hw.2.2]; exact h.2.2.2.2
theorem m_hill {T : Tk} {p : Nat} {σ0 σ : Mm} {X : Xt} (hA : AN T σ0) (h : MRX T σ0 X p σ) (hl : (qH X).length ≤ 12) (hk : tK T p = 19) : Ok (F_X12_tellHill σ) (oTm T σ0 (tHi0 T X p)) := by
  obtain ⟨c, l, hcp, hlp, hK, hR⟩ := h
  have n17 : mA σ 3 0 17 1 = nI (qH X).length := hR.1.2.2.2.1
  have c1 : (1 : Int32).toNatClampNeg = 1 := rfl
  unfold F_X12_tellHill tHi0
  rw [c1, n17]
  refine Ok_t (by decide) ?_
  by_cases cl : 12 ≤ (qH X).length
  · have e12 : (qH X).length = 12 := by omega
    rw [if_pos cl, e12]
    refine Ok_t rfl (Ok_B (s_wrong hA hK (x := 2) (Or.inr rfl)) (fun v τ hv => ?_))
    unfold F_X12_tellHill_16
    have hv1 : v = 0 := hv.1
    exact Ok_t (by rw [hv1]; decide) (Ok_r hv)
  rw [if_neg cl]
  have lh : (qH X).length < 12 := by omega
  refine Ok_f (fun z => cl (by have := (kq (k := (qH X).length) (c := 12) (by omega) (by omega)).mp z; omega)) (Ok_t (by decide) ?_)
  rw [show (12 : Int32) + nI (qH X).length = nI (12 + (qH X).length) from nI_add 12 _]
  generalize hj : 12 + (qH X).length = j
  have j24 : 12 ≤ j ∧ j < 24 := by omega
  have ij : inb (nI j) 60 = true := by
    clear hR hK hk n17 hj hA; grind [gI, gB, gC]
  have cj : (nI j).toNatClampNeg = j := nI_clamp (by omega)
  have fin0 : ∀ e, tks T [19, 3, 3, 3] p = .error e → ∀ τ, MF T σ0 e τ → oTm T σ0 (ebd (tks T [19, 3, 3, 3] p) (fun q => .ok (addH T X p, q))) (0, τ) := by
    intro e he τ hτ
    rw [he]; exact ⟨rfl, hτ⟩
  unfold F_X12_tellHill_27
  refine m_pas hA hK hk (by omega) (fun τ1 t1e K1 f1 => ?_) (fun e τ he hF => ?_)
  · unfold F_X12_tellHill_31
    refine Ok_f ne10 ?_
    have f1 : Fr [(3, 0, 7), (3, 0, 8), (3, 0, 9)] σ τ1 := f1
    have B1 : mBl T τ1 (p + 1) (qB X) := ((hR.2.2.2.2.2.2.2.1).fr f1 rfl).mono (by omega)
    refine m_int (m := 359) hA K1 B1 (by omega) (fun τ2 t2e K2 v2 B2 f2 => ?_) (fun e τ he hF => ?_)
    · unfold F_X12_tellHill_42
      refine Ok_f ne10 (Ok_t ij ?_)
      rw [cj, v2]
      generalize hw2 : setA τ2 3 0 18 (upd (mA τ2 3 0 18) j (nI (tV T (p + 1)))) = w2
      have g2 : Fr [(3, 18, 999)] τ2 w2 := by subst hw2; exact Fr_r.A rfl
      have R2 : ∀ t, mA w2 3 0 18 t = if t = j then nI (tV T (p + 1)) else mA τ2 3 0 18 t := by intro t; subst hw2; simp only [mA_A, mL_A, mP_A, mA_L, mL_L, mP_L, upd_at]; simp
      have K2' : MK T σ0 (p + 2) w2 := K2.fr (by subst hw2; exact K2.1.A rfl (Or.inr ⟨j24.1, j24.2⟩)) g2 rfl
      unfold F_X12_tellHill_57
      refine m_int (m := 359) hA K2' (B2.fr g2 rfl) (by omega) (fun τ3 t3e K3 v3 B3 f3 => ?_) (fun e τ he hF => ?_)
      · unfold F_X12_tellHill_65
        refine Ok_f ne10 (Ok_t ij ?_)
        rw [cj, v3]
        generalize hw3 : setA τ3 3 0 19 (upd (mA τ3 3 0 19) j (nI (tV T (p + 2)))) = w3
        have g3 : Fr [(3, 19, 999)] τ3 w3 := by subst hw3; exact Fr_r.A rfl
        have R3 : ∀ t, mA w3 3 0 19 t = if t = j then nI (tV T (p + 2)) else mA τ3 3 0 19 t := by intro t; subst hw3; simp only [mA_A, mL_A, mP_A, mA_L, mL_L, mP_L, upd_at]; simp
        have K3' : MK T σ0 (p + 3) w3 := K3.fr (by subst hw3; exact K3.1.A rfl (Or.inr ⟨j24.1, j24.2⟩)) g3 rfl
        unfold F_X12_tellHill_80
        refine m_int (m := 20) hA K3' (B3.fr g3 rfl) (by omega) (fun τ4 t4e K4 v4 B4 f4 => ?_) (fun e τ he hF => ?_)
        · unfold F_X12_tellHill_87
          refine Ok_f ne10 (Ok_t ij ?_)
          rw [cj, v4]
          generalize hw4 : setA τ4 3 0 20 (upd (mA τ4 3 0 20) j (nI (tV T (p + 3)))) = w4
          have g4 : Fr [(3, 20, 999)] τ4 w4 := by subst hw4; exact Fr_r.A rfl
          have R4 : ∀ t, mA w4 3 0 20 t = if t = j then nI (tV T (p + 3)) else mA τ4 3 0 20 t := by intro t; subst hw4; simp only [mA_A, mL_A, mP_A, mA_L, mL_L, mP_L, upd_at]; simp
          have K4' : MK T σ0 (p + 4) w4 := K4.fr (by subst hw4; exact K4.1.A rfl (Or.inr ⟨j24.1, j24.2⟩)) g4 rfl
          have F : Fr [(3, 0, 7), (3, 0, 8), (3, 0, 9), (3, 0, 10), (3, 0, 11), (3, 0, 55), (3, 18, 999), (3, 19, 999), (3, 20, 999)] σ w4 := (((f1.sub rfl).trans (f2.sub rfl)).trans ((g2.sub rfl).trans (f3.sub rfl))).trans (((g3.sub rfl).trans (f4.sub rfl)).trans (g4.sub rfl))
          unfold F_X12_tellHill_102 F_X12_tellHill_112
          have m17 : mA w4 3 0 17 1 = nI (qH X).length := by rw [F.row (t := 3) (k := 17) 0 rfl]; exact n17
          rw [c1, m17, nI_1]
          generalize hw5 : setA w4 3 0 17 (upd (mA w4 3 0 17) 1 (nI ((qH X).length + 1))) = w5
          have g5 : Fr [(3, 17, 999)] w4 w5 := by subst hw5; exact Fr_r.A rfl
          have G : Fr [(3, 0, 7), (3, 0, 8), (3, 0, 9), (3, 0, 10), (3, 0, 11), (3, 0, 55), (3, 17, 999), (3, 18, 999), (3, 19, 999), (3, 20, 999)] σ w5 := (F.sub rfl).trans (g5.sub rfl)
          have hts : tks T [19, 3, 3, 3] p = .ok (p + 4) := by
            show ebd (t1 T 19 p) (fun q => ebd (t1 T 3 q) (fun q => ebd (t1 T 3 q) (fun q => ebd (t1 T 3 q) (fun q => .ok q)))) = _
            rw [t1e, ebd_k, t2e, ebd_k]
            have t3e : t1 T 3 (p + 1 + 1) = .ok (p + 3) := t3e
            rw [t3e, ebd_k, t4e]; rfl
          rw [hts, ebd_k]
          obtain ⟨r1, r2, r3, r4, r5, r6, r7, r8, r9, r10⟩ := hR
          refine Ok_t (by decide) (Ok_t (by decide) (Ok_r ⟨rfl, c, l, by show c ≤ p + 4; omega, by show 3 * l ≤ p + 4; omega, K4'.fr (by subst hw5; exact K4'.1.A rfl (Or.inr ⟨by decide, by decide⟩)) g5 rfl, ⟨?_, ?_, ?_, ?_, ?_, ?_⟩, r2.fr G rfl, r3.fr G rfl, ?_, r5.fr G rfl, r6.fr G rfl, r7.fr G rfl, ?_, ?_, ?_⟩))
          · rw [G.row (t := 3) (k := 7) 0 rfl]; exact r1.1
          · rw [G.row (t := 3) (k := 8) 0 rfl]; exact r1.2.1
          · rw [G.row (t := 3) (k := 14) 0 rfl]; exact r1.2.2.1
          · subst hw5
            show _ = nI (qH X ++ [p]).length
            rw [List.length_append]; simp only [mA_A, mL_A, mP_A, mA_L, mL_L, mP_L, upd_at]; simp
          · rw [G.row (t := 3) (k := 21) 0 rfl]; exact r1.2.2.2.2.1
          · rw [G.row (t := 3) (k := 25) 0 rfl]; exact r1.2.2.2.2.2
          · intro t x hx
            have h18 : mA w5 3 0 18 = mA w2 3 0 18 := by rw [g5.row (t := 3) (k := 18) 0 rfl, g4.row (t := 3) (k := 18) 0 rfl, f4.row (t := 3) (k := 18) 0 rfl, g3.row (t := 3) (k := 18) 0 rfl, f3.row (t := 3) (k := 18) 0 rfl]
            have h19 : mA w5 3 0 19 = mA w3 3 0 19 := by rw [g5.row (t := 3) (k := 19) 0 rfl, g4.row (t := 3) (k := 19) 0 rfl, f4.row (t := 3) (k := 19) 0 rfl]
            have h20 : mA w5 3 0 20 = mA w4 3 0 20 := by rw [g5.row (t := 3) (k := 20) 0 rfl]
            have s18 : mA τ2 3 0 18 = mA σ 3 0 18 := by rw [f2.row (t := 3) (k := 18) 0 rfl, f1.row (t := 3) (k := 18) 0 rfl]
            have s19 : mA τ3 3 0 19 = mA σ 3 0 19 := by rw [f3.row (t := 3) (k := 19) 0 rfl, g2.row (t := 3) (k := 19) 0 rfl, f2.row (t := 3) (k := 19) 0 rfl, f1.row (t := 3) (k := 19) 0 rfl]
            have s20 : mA τ4 3 0 20 = mA σ 3 0 20 := by rw [f4.row (t := 3) (k := 20) 0 rfl, g3.row (t := 3) (k := 20) 0 rfl, f3.row (t := 3) (k := 20) 0 rfl, g2.row (t := 3) (k := 20) 0 rfl, f2.row (t := 3) (k := 20) 0 rfl, f1.row (t := 3) (k := 20) 0 rfl]
            rw [h18, h19, h20, R2, R3, R4, s18, s19, s20]
            rcases getA (show (qH X ++ [p])[t]? = some x from hx) with hj2 | ⟨rfl, rfl⟩
            · have hlt := (List.getElem?_eq_some_iff.mp hj2).1
              have ne : 12 + t ≠ j := by omega
              rw [if_neg ne, if_neg ne, if_neg ne]
              exact r4 t x hj2
            · rw [if_pos hj, if_pos hj, if_pos hj]
              exact ⟨rfl, rfl, rfl⟩
          · exact (B4.fr g4 rfl).fr g5 rfl
          · rw [G.row (t := 3) (k := 28) 0 rfl]; exact r9
          · rw [G.row (t := 3) (k := 31) 0 rfl]; exact r10
        · unfold F_X12_tellHill_87
          refine Ok_t rfl (Ok_r (fin0 e ?_ τ hF))
          show ebd (t1 T 19 p) (fun q => ebd (t1 T 3 q) (fun q => ebd (t1 T 3 q) (fun q => ebd (t1 T 3 q) (fun q => .ok q)))) = _
          rw [t1e, ebd_k, t2e, ebd_k]
          have t3e : t1 T 3 (p + 1 + 1) = .ok (p + 3) := t3e
          rw [t3e, ebd_k, he]; rfl
      · unfold F_X12_tellHill_65
        refine Ok_t rfl (Ok_r (fin0 e ?_ τ hF))
        show ebd (t1 T 19 p) (fun q => ebd (t1 T 3 q) (fun q => ebd (t1 T 3 q) _)) = _
        rw [t1e, ebd_k, t2e, ebd_k]
        have he : t1 T 3 (p + 1 + 1) = .error e := he
        rw [he]; rfl
    · unfold F_X12_tellHill_42
      refine Ok_t rfl (Ok_r (fin0 e ?_ τ hF))
      show ebd (t1 T 19 p) (fun q => ebd (t1 T 3 q) _) = _
      rw [t1e, ebd_k, he]; rfl
  · unfold F_X12_tellHill_31
    refine Ok_t rfl (Ok_r (fin0 e ?_ τ hF))
    show ebd (t1 T 19 p) _ = _
    rw [he]; rfl
