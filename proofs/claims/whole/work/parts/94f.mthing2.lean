theorem bla_s {b : Nat × Nat} {q : Prop} [Decidable q] {c x : Nat} : bla (some b) q c x = some b := by
  unfold bla addB; split <;> rfl
theorem m_thing {T : Tk} {p : Nat} {σ0 σ : Mm} {X : Xt} (hA : AN T σ0) (h : MRX T σ0 X p σ) (hl : (qT X).length ≤ 14) (hX : nkX T X) (hL : (qT X).length < 14 → (qL X).length < 20) (hV : qB X = none → ∀ x ∈ qT X, tV T (x + 3) ≤ 999) (hk : tK T p = 16 ∨ tK T p = 17) : Ok (F_X12_tellThing (if tK T p = 16 then 1 else 0) σ) (oTm T σ0 (tTh0 T X p)) := by
  obtain ⟨c, l, hcp, hlp, hK, hR⟩ := h
  have n8 : mA σ 3 0 8 1 = nI (qT X).length := hR.1.2.1
  have c1 : (1 : Int32).toNatClampNeg = 1 := rfl
  unfold F_X12_tellThing tTh0
  rw [c1, n8]
  refine Ok_t (by decide) ?_
  by_cases cl : 14 ≤ (qT X).length
  · have e14 : (qT X).length = 14 := by omega
    rw [if_pos cl, e14]
    refine Ok_t rfl (Ok_B (s_wrong hA hK (x := 2) (Or.inr rfl)) (fun v τ hv => ?_))
    unfold F_X12_tellThing_16
    have hv1 : v = 0 := hv.1
    exact Ok_t (by rw [hv1]; decide) (Ok_r hv)
  rw [if_neg cl]
  have lh : (qT X).length < 14 := by omega
  refine Ok_f (fun z => cl (by have := (kq (k := (qT X).length) (c := 14) (by omega) (by omega)).mp z; omega)) (Ok_t (by decide) ?_)
  rw [show (14 : Int32) + nI (qT X).length = nI (14 + (qT X).length) from nI_add 14 _]
  have ij : inb (nI (14 + (qT X).length)) 70 = true := by
    have : 14 + (qT X).length < 70 := by omega
    generalize 14 + (qT X).length = z at *
    clear hR hK hk n8 hA hX hL hV; grind [gI, gB, gC]
  have cj : (nI (14 + (qT X).length)).toNatClampNeg = 14 + (qT X).length := nI_clamp (by omega)
  have hx1 : vp_nar .boolean (if tK T p = 16 then 1 else 0) = if tK T p = 16 then 1 else 0 := by split <;> rfl
  generalize hfl : (if tK T p = 16 then (1 : Int32) else 0) = x1 at *
  have fin0 : ∀ e, tks T [tK T p, 2, 3, 3, 3] p = .error e → ∀ τ, MF T σ0 e τ → oTm T σ0 (ebd (tks T [tK T p, 2, 3, 3, 3] p) (fun q => .ok (addT T X p, q))) (0, τ) := by
    intro e he τ hτ
    rw [he]; exact ⟨rfl, hτ⟩
  have hts : tks T [tK T p, 2, 3, 3, 3] p = ebd (t1 T (tK T p) p) (fun q => ebd (t1 T 2 q) (fun q => ebd (t1 T 3 q) (fun q => ebd (t1 T 3 q) (fun q => ebd (t1 T 3 q) (fun q => .ok q))))) := rfl
  have hvv : ∀ z, tV T z ≤ 9999 := hA.1.2.2.2.1
  unfold F_X12_tellThing_27
  refine m_pas hA hK (c := tK T p) rfl (by omega) (fun τ1 t1e K1 f1 => ?_) (fun e τ he hF => ?_)
  · unfold F_X12_tellThing_31
    have f1 : Fr [(3, 0, 7), (3, 0, 8), (3, 0, 9)] σ τ1 := f1
    have B1 : mBl T τ1 (p + 1) (qB X) := ((hR.2.2.2.2.2.2.2.1).fr f1 rfl).mono (by omega)
    rw [c1, show mA τ1 3 0 8 1 = nI (qT X).length from by rw [f1.row (t := 3) (k := 8) 0 rfl]; exact n8]
    refine Ok_f ne10 (Ok_t (by decide) ?_)
    refine m_names hA K1 hX (hL lh) ((hR.2.2.2.2.2.2.1).fr f1 rfl) B1 (fun τ2 t2e K2 N2 B2 f2 => ?_) (fun e τ he hF => ?_)
    · have f2 : Fr [(3, 0, 7), (3, 0, 8), (3, 0, 9), (3, 0, 10), (3, 0, 11), (3, 0, 49), (3, 43, 999), (3, 44, 999)] τ1 τ2 := f2
      unfold F_X12_tellThing_44
      refine Ok_f ne10 ?_
      refine m_int (m := 999) hA K2 B2 (by omega) (fun τ3 t3e K3 v3 B3 f3 => ?_) (fun e τ he hF => ?_)
      · unfold F_X12_tellThing_57
        refine Ok_f ne10 (Ok_t ij ?_)
        rw [cj, v3]
        generalize hw3 : setA τ3 3 0 10 (upd (mA τ3 3 0 10) (14 + (qT X).length) (nI (tV T (p + 2)))) = w3
        have g3 : Fr [(3, 10, 999)] τ3 w3 := by subst hw3; exact Fr_r.A rfl
        have R3 : ∀ t, mA w3 3 0 10 t = if t = 14 + (qT X).length then nI (tV T (p + 2)) else mA τ3 3 0 10 t := by intro t; subst hw3; simp only [mA_A, mL_A, mP_A, mA_L, mL_L, mP_L, upd_at]; simp
        have K3' : MK T σ0 (p + 3) w3 := K3.fr (by subst hw3; exact K3.1.A rfl (Or.inr ⟨show 14 ≤ _ by omega, show _ < 28 by omega⟩)) g3 rfl
        unfold F_X12_tellThing_72
        rw [K3'.2.1]
        refine m_int (m := 999) hA K3' (B3.fr g3 rfl) (by omega) (fun τ4 t4e K4 v4 B4 f4 => ?_) (fun e τ he hF => ?_)
        · unfold F_X12_tellThing_85 F_X12_tellThing_100
          refine Ok_f ne10 (Ok_t ij ?_)
          rw [cj, v4]
          generalize hw4 : setA τ4 3 0 11 (upd (mA τ4 3 0 11) (14 + (qT X).length) (nI (tV T (p + 3)))) = w4
          have g4 : Fr [(3, 11, 999)] τ4 w4 := by subst hw4; exact Fr_r.A rfl
          have R4 : ∀ t, mA w4 3 0 11 t = if t = 14 + (qT X).length then nI (tV T (p + 3)) else mA τ4 3 0 11 t := by intro t; subst hw4; simp only [mA_A, mL_A, mP_A, mA_L, mL_L, mP_L, upd_at]; simp
          have K4' : MK T σ0 (p + 4) w4 := K4.fr (by subst hw4; exact K4.1.A rfl (Or.inr ⟨show 14 ≤ _ by omega, show _ < 28 by omega⟩)) g4 rfl
          have hp3 : p + 3 ≤ 400 := by have := K4.2.2.1; omega
          have hg3 : gTk T (p + 3) := gTk_le K4.2.2.2.1 (by omega)
          have F : Fr [(3, 0, 7), (3, 0, 8), (3, 0, 9), (3, 0, 10), (3, 0, 11), (3, 0, 49), (3, 0, 55), (3, 10, 999), (3, 11, 999), (3, 43, 999), (3, 44, 999)] σ w4 := (((f1.sub rfl).trans (f2.sub rfl)).trans ((f3.sub rfl).trans (g3.sub rfl))).trans ((f4.sub rfl).trans (g4.sub rfl))
          have r10 : ∀ t, mA w4 3 0 10 t = if t = 14 + (qT X).length then nI (tV T (p + 2)) else mA σ 3 0 10 t := by
            intro t
            rw [g4.row (t := 3) (k := 10) 0 rfl, f4.row (t := 3) (k := 10) 0 rfl, R3, f3.row (t := 3) (k := 10) 0 rfl, f2.row (t := 3) (k := 10) 0 rfl, f1.row (t := 3) (k := 10) 0 rfl]
          have r11 : ∀ t, mA w4 3 0 11 t = if t = 14 + (qT X).length then nI (tV T (p + 3)) else mA σ 3 0 11 t := by
            intro t
            rw [R4, f4.row (t := 3) (k := 11) 0 rfl, g3.row (t := 3) (k := 11) 0 rfl, f3.row (t := 3) (k := 11) 0 rfl, f2.row (t := 3) (k := 11) 0 rfl, f1.row (t := 3) (k := 11) 0 rfl]
          have hT4 : mTh T w4 X := by
            intro t x hx
            have hlt := (List.getElem?_eq_some_iff.mp hx).1
            rw [r10, r11, if_neg (by omega), if_neg (by omega), F.row (t := 3) (k := 12) 0 rfl, F.row (t := 3) (k := 9) 0 rfl, F.row (t := 3) (k := 13) 0 rfl]
            exact hR.2.1 t x hx
          have hb0 : (qT X).any (sqE T p) = true → (bla (bla (bla (qB X) (nmd T X (p + 1) = true) 3 (p + 1)) (999 < tV T (p + 2)) 5 (p + 2)) (999 < tV T (p + 3)) 5 (p + 3) = none ∨ ∃ e, bla (bla (bla (qB X) (nmd T X (p + 1) = true) 3 (p + 1)) (999 < tV T (p + 2)) 5 (p + 2)) (999 < tV T (p + 3)) 5 (p + 3) = some e ∧ (e.2 = p + 3 → e.1 ≤ 3)) := by
            intro hany
            have B3' : mBl T τ3 (p + 3) (bla (bla (qB X) (nmd T X (p + 1) = true) 3 (p + 1)) (999 < tV T (p + 2)) 5 (p + 2)) := B3
            cases hb3 : bla (bla (qB X) (nmd T X (p + 1) = true) 3 (p + 1)) (999 < tV T (p + 2)) 5 (p + 2) with
            | some e =>
              rw [hb3] at B3'
              have := B3'.2.2.2.2
              exact Or.inr ⟨e, bla_s, fun z => by omega⟩
            | none =>
              left
              have hn : qB X = none := by
                cases hq : qB X with
                | none => rfl
                | some b => rw [hq, bla_s, bla_s] at hb3; cases hb3
              obtain ⟨x, hx, hs⟩ := List.any_eq_true.mp hany
              have hs2 := (of_decide_eq_true hs).2
              have := hV hn x hx
              exact if_neg (by omega)
          refine th_104 (BB := (addT T X p).2.2.2.2.2.2.2) hA lh hp3 hg3 (fun τ5 K5 f5 B5 => ?_) FU 0 w4 _ (by show _ < 1000000; omega) (Nat.zero_le _) K4' Fr_r hT4 (by rw [r10, if_pos rfl]) (by rw [r11, if_pos rfl]) (B4.fr g4 rfl) hb0 rfl
          refine m_int (m := 9999) hA K5 B5 (by omega) (fun τ6 t6e K6 v6 B6 f6 => ?_) (fun e τ he hF => ?_)
          · unfold F_X12_tellThing_162 F_X12_tellThing_177 F_X12_tellThing_184 F_X12_tellThing_191 F_X12_tellThing_201
            refine Ok_f ne10 (Ok_t ij (Ok_t ij (Ok_t ij (Ok_t (by decide) (Ok_t (by decide) ?_)))))
            rw [cj, v6, hx1, c1]
            generalize hwa : setA τ6 3 0 12 (upd (mA τ6 3 0 12) (14 + (qT X).length) (nI (tV T (p + 4)))) = wa
            have ga : Fr [(3, 12, 999)] τ6 wa := by subst hwa; exact Fr_r.A rfl
            have Ra : ∀ t, mA wa 3 0 12 t = if t = 14 + (qT X).length then nI (tV T (p + 4)) else mA τ6 3 0 12 t := by intro t; subst hwa; simp only [mA_A, mL_A, mP_A, mA_L, mL_L, mP_L, upd_at]; simp
            have Ka : MK T σ0 (p + 5) wa := K6.fr (by subst hwa; exact K6.1.A rfl (Or.inr ⟨show 14 ≤ _ by omega, show _ < 28 by omega⟩)) ga rfl
            generalize hwb : setA wa 3 0 9 (upd (mA wa 3 0 9) (14 + (qT X).length) x1) = wb
            have gb : Fr [(3, 9, 999)] wa wb := by subst hwb; exact Fr_r.A rfl
            have Rb : ∀ t, mA wb 3 0 9 t = if t = 14 + (qT X).length then x1 else mA wa 3 0 9 t := by intro t; subst hwb; simp only [mA_A, mL_A, mP_A, mA_L, mL_L, mP_L, upd_at]; simp
            have Kb : MK T σ0 (p + 5) wb := Ka.fr (by subst hwb; exact Ka.1.A rfl (Or.inr ⟨show 14 ≤ _ by omega, show _ < 28 by omega⟩)) gb rfl
            generalize hwc : setA wb 3 0 13 (upd (mA wb 3 0 13) (14 + (qT X).length) (-1)) = wc
            have gc : Fr [(3, 13, 999)] wb wc := by subst hwc; exact Fr_r.A rfl
            have Rc : ∀ t, mA wc 3 0 13 t = if t = 14 + (qT X).length then -1 else mA wb 3 0 13 t := by intro t; subst hwc; simp only [mA_A, mL_A, mP_A, mA_L, mL_L, mP_L, upd_at]; simp
            have Kc : MK T σ0 (p + 5) wc := Kb.fr (by subst hwc; exact Kb.1.A rfl (Or.inr ⟨show 14 ≤ _ by omega, show _ < 28 by omega⟩)) gc rfl
            have F2 : Fr [(3, 0, 7), (3, 0, 8), (3, 0, 9), (3, 0, 10), (3, 0, 11), (3, 0, 55), (3, 12, 999), (3, 9, 999), (3, 13, 999)] w4 wc := ((f5.sub rfl).trans (f6.sub rfl)).trans (((ga.sub rfl).trans (gb.sub rfl)).trans (gc.sub rfl))
            have m8 : mA wc 3 0 8 1 = nI (qT X).length := by rw [F2.row (t := 3) (k := 8) 0 rfl, F.row (t := 3) (k := 8) 0 rfl]; exact n8
            rw [m8, nI_1]
            generalize hwd : setA wc 3 0 8 (upd (mA wc 3 0 8) 1 (nI ((qT X).length + 1))) = wd
            have gd : Fr [(3, 8, 999)] wc wd := by subst hwd; exact Fr_r.A rfl
            have G : Fr [(3, 0, 7), (3, 0, 8), (3, 0, 9), (3, 0, 10), (3, 0, 11), (3, 0, 49), (3, 0, 55), (3, 10, 999), (3, 11, 999), (3, 43, 999), (3, 44, 999), (3, 12, 999), (3, 9, 999), (3, 13, 999), (3, 8, 999)] σ wd := ((F.sub rfl).trans (F2.sub rfl)).trans (gd.sub rfl)
            rw [hts, t1e, ebd_k, t2e, ebd_k]
            have t3e : t1 T 3 (p + 1 + 1) = .ok (p + 3) := t3e
            have t4e : t1 T 3 (p + 3) = .ok (p + 4) := t4e
            rw [t3e, ebd_k, t4e, ebd_k, t6e, ebd_k, ebd_k]
            obtain ⟨q1, q2, q3, q4, q5, q6, q7, q8, q9, q10⟩ := hR
            have fz : Fr [(3, 0, 7), (3, 0, 8), (3, 0, 9), (3, 0, 10), (3, 0, 11), (3, 0, 55), (3, 10, 999), (3, 11, 999), (3, 12, 999), (3, 9, 999), (3, 13, 999), (3, 8, 999)] τ2 wd := (((f3.sub rfl).trans (g3.sub rfl)).trans ((f4.sub rfl).trans (g4.sub rfl))).trans ((F2.sub rfl).trans (gd.sub rfl))
            have gz : Fr [(3, 12, 999), (3, 9, 999), (3, 13, 999), (3, 8, 999)] τ6 wd := ((ga.sub rfl).trans (gb.sub rfl)).trans ((gc.sub rfl).trans (gd.sub rfl))
            refine Ok_r ⟨rfl, c, l, by show c ≤ p + 5; omega, by show 3 * l ≤ p + 5; omega, Kc.fr (by subst hwd; exact Kc.1.A rfl (Or.inr ⟨by decide, by decide⟩)) gd rfl, ⟨?_, ?_, ?_, ?_, ?_, ?_⟩, ?_, q3.fr G rfl, q4.fr G rfl, q5.fr G rfl, q6.fr G rfl, (N2 (addT T X p) rfl).fr fz rfl, ?_, ?_, ?_⟩
            · rw [G.row (t := 3) (k := 7) 0 rfl]; exact q1.1
            · subst hwd
              show _ = nI (qT X ++ [p]).length
              rw [List.length_append]; simp only [mA_A, mL_A, mP_A, mA_L, mL_L, mP_L, upd_at]; simp
            · rw [G.row (t := 3) (k := 14) 0 rfl]; exact q1.2.2.1
            · rw [G.row (t := 3) (k := 17) 0 rfl]; exact q1.2.2.2.1
            · rw [G.row (t := 3) (k := 21) 0 rfl]; exact q1.2.2.2.2.1
            · rw [G.row (t := 3) (k := 25) 0 rfl]; exact q1.2.2.2.2.2
            · intro t x hx
              rw [gd.row (t := 3) (k := 10) 0 rfl, F2.row (t := 3) (k := 10) 0 rfl, gd.row (t := 3) (k := 11) 0 rfl, F2.row (t := 3) (k := 11) 0 rfl, r10, r11,
                gd.row (t := 3) (k := 12) 0 rfl, gc.row (t := 3) (k := 12) 0 rfl, gb.row (t := 3) (k := 12) 0 rfl, Ra, f6.row (t := 3) (k := 12) 0 rfl, f5.row (t := 3) (k := 12) 0 rfl, F.row (t := 3) (k := 12) 0 rfl,
                gd.row (t := 3) (k := 9) 0 rfl, gc.row (t := 3) (k := 9) 0 rfl, Rb, ga.row (t := 3) (k := 9) 0 rfl, f6.row (t := 3) (k := 9) 0 rfl, f5.row (t := 3) (k := 9) 0 rfl, F.row (t := 3) (k := 9) 0 rfl,
                gd.row (t := 3) (k := 13) 0 rfl, Rc, gb.row (t := 3) (k := 13) 0 rfl, ga.row (t := 3) (k := 13) 0 rfl, f6.row (t := 3) (k := 13) 0 rfl, f5.row (t := 3) (k := 13) 0 rfl, F.row (t := 3) (k := 13) 0 rfl]
              rcases getA (show (qT X ++ [p])[t]? = some x from hx) with hj | ⟨rfl, rfl⟩
              · have hlt := (List.getElem?_eq_some_iff.mp hj).1
                have ne : 14 + t ≠ 14 + (qT X).length := by omega
                simp only [if_neg ne]
                exact q2 t x hj
              · simp only [if_true]
                exact ⟨trivial, trivial, trivial, hfl.symm, trivial⟩
            · have e : bla ((addT T X p).2.2.2.2.2.2.2) (9999 < tV T (p + 4)) 5 (p + 4) = qB (addT T X p) := if_neg (by have := hvv (p + 4); omega)
              rw [e] at B6
              exact B6.fr gz rfl
            · rw [G.row (t := 3) (k := 28) 0 rfl]; exact q9
            · rw [G.row (t := 3) (k := 31) 0 rfl]; exact q10
          · unfold F_X12_tellThing_162
            refine Ok_t rfl (Ok_r (fin0 e ?_ τ hF))
            rw [hts, t1e, ebd_k, t2e, ebd_k]
            have t3e : t1 T 3 (p + 1 + 1) = .ok (p + 3) := t3e
            have t4e : t1 T 3 (p + 3) = .ok (p + 4) := t4e
            rw [t3e, ebd_k, t4e, ebd_k, he]; rfl
        · unfold F_X12_tellThing_85
          refine Ok_t rfl (Ok_r (fin0 e ?_ τ hF))
          rw [hts, t1e, ebd_k, t2e, ebd_k]
          have t3e : t1 T 3 (p + 1 + 1) = .ok (p + 3) := t3e
          rw [t3e, ebd_k, he]; rfl
      · unfold F_X12_tellThing_57
        refine Ok_t rfl (Ok_r (fin0 e ?_ τ hF))
        have he : t1 T 3 (p + 1 + 1) = .error e := he
        rw [hts, t1e, ebd_k, t2e, ebd_k, he]; rfl
    · unfold F_X12_tellThing_44
      refine Ok_t rfl (Ok_r (fin0 e ?_ τ hF))
      rw [hts, t1e, ebd_k, he]; rfl
  · unfold F_X12_tellThing_31
    refine Ok_t rfl (Ok_r (fin0 e ?_ τ hF))
    rw [hts, he]; rfl
