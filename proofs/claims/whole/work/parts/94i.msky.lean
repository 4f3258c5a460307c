/-! the model's PLACES -/
theorem m_sky86 {T : Tk} {p p3 c l : Nat} {sp : Bool} {σ0 σ τ : Mm} {X : Xt} (hA : AN T σ0) (hR : MR T c l p X σ) (hcp : c ≤ p) (hlp : 3 * l ≤ p) (lh : (qS X).length < 5) (hp3 : p ≤ p3) (hK : MK T σ0 p3 τ) (F : Fr [(3, 0, 7), (3, 0, 8), (3, 0, 9), (3, 0, 10), (3, 0, 11), (3, 0, 49), (3, 0, 55), (3, 22, 999), (3, 43, 999), (3, 44, 999)] σ τ)
    (r22 : ∀ t, mA τ 3 0 22 t = if t = 5 + (qS X).length then (if sp = true then nI (tV T (p + 3)) else 0) else mA σ 3 0 22 t) (hN : ∀ X', qL X' = qL X ++ [(p + 1, -1)] → mNa T τ X') (hB : mBl T τ p3 (qB (addS T X p sp []))) :
    Ok (F_X12_tellSky_86 (nI (5 + (qS X).length)) τ) (oTm T σ0 (ebd (t1 T 5 p3) (fun q => ebd (xS T 7 q) (fun e => .ok (addS T X p sp e.1, e.2))))) := by
  have c1 : (1 : Int32).toNatClampNeg = 1 := rfl
  unfold F_X12_tellSky_86
  rw [show F_X12_isSign 61 τ = some (if tK T p3 = 5 then 1 else 0, τ) from s_isSign hA hK (s := 5) (c := 61) (by decide) rfl, bnd_s]
  unfold F_X12_tellSky_92
  by_cases c5 : tK T p3 = 5
  · rw [if_pos c5]
    refine Ok_f ne10 ?_
    refine m_pas hA hK c5 (by omega) (fun τ1 t1e K1 f1 => ?_) (fun e υ he hF => ?_)
    · have f1 : Fr [(3, 0, 7), (3, 0, 8), (3, 0, 9)] τ τ1 := f1
      rw [t1e, ebd_k]
      unfold F_X12_tellSky_105
      refine Ok_f ne10 ?_
      obtain ⟨r1, r2, r3, r4, r5, r6, r7, r8, r9, r10⟩ := hR
      refine Ok_B ((s_exprM hA K1 (c := c) (g := fun j => mA τ1 3 0 29 (500 + j)) (k := fun j => mA τ1 3 0 30 (500 + j)) (by rw [f1.row (t := 3) (k := 28) 0 rfl, F.row (t := 3) (k := 28) 0 rfl]; exact r9) (fun j _ => ⟨rfl, rfl⟩) (by omega)).frI fr_X12_expr) (fun v υ hv => ?_)
      obtain ⟨hv, f2⟩ := hv
      have f2 : Fr [(3, 0, 7), (3, 0, 8), (3, 0, 9), (3, 0, 56), (3, 0, 58), (3, 28, 999), (3, 29, 999), (3, 30, 999), (3, 47, 999)] τ1 υ := f2
      unfold F_X12_tellSky_112
      cases hx : xS T 7 (p3 + 1) with
      | error e =>
        rw [hx] at hv
        have hv1 : v = 0 := hv.1
        exact Ok_t hv1 (Ok_r ⟨rfl, hv.2⟩)
      | ok a =>
        obtain ⟨L, q⟩ := a
        rw [hx] at hv
        obtain ⟨hv1, ⟨K2, -, -, hc2, hg2, hC2, -⟩, h58⟩ := hv
        have hv1 : v = 1 := hv1
        have hc2 : mA υ 3 0 28 1 = nI (c + L.length) := hc2
        have hC2 : ∀ j z, L[j]? = some z → mA υ 3 0 29 (500 + (c + j)) = nI z.1 ∧ mA υ 3 0 30 (500 + (c + j)) = z.2 := hC2
        have h58 : mA υ 3 0 0 58 = nI c := h58
        have K2 : MK T σ0 q υ := K2
        obtain ⟨z1, z2, -, -⟩ := sLn_S 7 _ _ _ K1.2.2.1 K1.2.2.2.1 hx
        have F2 : Fr [(3, 0, 7), (3, 0, 8), (3, 0, 9), (3, 0, 10), (3, 0, 11), (3, 0, 49), (3, 0, 55), (3, 0, 56), (3, 0, 58), (3, 22, 999), (3, 28, 999), (3, 29, 999), (3, 30, 999), (3, 43, 999), (3, 44, 999), (3, 47, 999)] σ υ := (F.sub rfl).trans ((f1.sub rfl).trans (f2.sub rfl))
        have f12 : Fr [(3, 0, 7), (3, 0, 8), (3, 0, 9), (3, 0, 56), (3, 0, 58), (3, 28, 999), (3, 29, 999), (3, 30, 999), (3, 47, 999)] τ υ := (f1.sub rfl).trans f2
        have ij : inb (nI (5 + (qS X).length)) 25 = true := by
          have : 5 + (qS X).length < 25 := by omega
          generalize 5 + (qS X).length = z at *
          clear K1 K2 hK hA r1 r2 r3 r4 r5 r6 r7 r8 hN hB hg2 hC2; grind [gI, gB, gC]
        have cj : (nI (5 + (qS X).length)).toNatClampNeg = 5 + (qS X).length := nI_clamp (by omega)
        refine Ok_f (by rw [hv1]; decide) (Ok_t ij ?_)
        rw [cj, h58]
        generalize hw1 : setA υ 3 0 23 (upd (mA υ 3 0 23) (5 + (qS X).length) (nI c)) = w1
        have g1 : Fr [(3, 23, 999)] υ w1 := by subst hw1; exact Fr_r.A rfl
        have R1 : ∀ t, mA w1 3 0 23 t = if t = 5 + (qS X).length then nI c else mA υ 3 0 23 t := by intro t; subst hw1; simp only [mA_A, mL_A, mP_A, mA_L, mL_L, mP_L, upd_at]; simp
        have L1 : MK T σ0 q w1 := K2.fr (by subst hw1; exact K2.1.A rfl (Or.inr ⟨show 5 ≤ _ by omega, show _ < 10 by omega⟩)) g1 rfl
        unfold F_X12_tellSky_127
        rw [c1, cj, show mA w1 3 0 28 1 = nI (c + L.length) from by rw [g1.row (t := 3) (k := 28) 0 rfl]; exact hc2]
        refine Ok_t (by decide) (Ok_t ij ?_)
        generalize hw2 : setA w1 3 0 24 (upd (mA w1 3 0 24) (5 + (qS X).length) (nI (c + L.length))) = w2
        have g2 : Fr [(3, 24, 999)] w1 w2 := by subst hw2; exact Fr_r.A rfl
        have R2 : ∀ t, mA w2 3 0 24 t = if t = 5 + (qS X).length then nI (c + L.length) else mA w1 3 0 24 t := by intro t; subst hw2; simp only [mA_A, mL_A, mP_A, mA_L, mL_L, mP_L, upd_at]; simp
        have L2 : MK T σ0 q w2 := L1.fr (by subst hw2; exact L1.1.A rfl (Or.inr ⟨show 5 ≤ _ by omega, show _ < 10 by omega⟩)) g2 rfl
        unfold F_X12_tellSky_139 F_X12_tellSky_149
        rw [c1, show mA w2 3 0 21 1 = nI (qS X).length from by rw [g2.row (t := 3) (k := 21) 0 rfl, g1.row (t := 3) (k := 21) 0 rfl, F2.row (t := 3) (k := 21) 0 rfl]; exact r1.2.2.2.2.1, nI_1]
        generalize hw3 : setA w2 3 0 21 (upd (mA w2 3 0 21) 1 (nI ((qS X).length + 1))) = w3
        have g3 : Fr [(3, 21, 999)] w2 w3 := by subst hw3; exact Fr_r.A rfl
        have G : Fr [(3, 23, 999), (3, 24, 999), (3, 21, 999)] υ w3 := ((g1.sub rfl).trans (g2.sub rfl)).trans (g3.sub rfl)
        have GG : Fr [(3, 0, 7), (3, 0, 8), (3, 0, 9), (3, 0, 10), (3, 0, 11), (3, 0, 49), (3, 0, 55), (3, 0, 56), (3, 0, 58), (3, 22, 999), (3, 28, 999), (3, 29, 999), (3, 30, 999), (3, 43, 999), (3, 44, 999), (3, 47, 999), (3, 23, 999), (3, 24, 999), (3, 21, 999)] σ w3 := (F2.sub rfl).trans (G.sub rfl)
        have fN3 : Fr [(3, 0, 7), (3, 0, 8), (3, 0, 9), (3, 0, 56), (3, 0, 58), (3, 28, 999), (3, 29, 999), (3, 30, 999), (3, 47, 999), (3, 23, 999), (3, 24, 999), (3, 21, 999)] τ w3 := (f12.sub rfl).trans (G.sub rfl)
        have rows : ∀ j, j < c → mA w3 3 0 29 (500 + j) = mA σ 3 0 29 (500 + j) ∧ mA w3 3 0 30 (500 + j) = mA σ 3 0 30 (500 + j) := by
          intro j hj
          rw [G.row (t := 3) (k := 29) 0 rfl, G.row (t := 3) (k := 30) 0 rfl, (hg2 j hj).1, (hg2 j hj).2, f1.row (t := 3) (k := 29) 0 rfl, f1.row (t := 3) (k := 30) 0 rfl, F.row (t := 3) (k := 29) 0 rfl, F.row (t := 3) (k := 30) 0 rfl]
          exact ⟨rfl, rfl⟩
        rw [ebd_k]
        refine Ok_t (by decide) (Ok_t (by decide) (Ok_r ⟨rfl, c + L.length, l, by show c + L.length ≤ q; omega, by show 3 * l ≤ q; omega, L2.fr (by subst hw3; exact L2.1.A rfl (Or.inr ⟨by decide, by decide⟩)) g3 rfl, ⟨?_, ?_, ?_, ?_, ?_, ?_⟩, r2.fr GG rfl, r3.fr GG rfl, r4.fr GG rfl, ?_, ?_, (hN (addS T X p sp L) rfl).fr fN3 rfl, (mBl.fr (show mBl T τ p3 (qB (addS T X p sp L)) from hB) fN3 rfl).mono (by show p3 ≤ q; omega), ?_, ?_⟩))
        · rw [GG.row (t := 3) (k := 7) 0 rfl]; exact r1.1
        · rw [GG.row (t := 3) (k := 8) 0 rfl]; exact r1.2.1
        · rw [GG.row (t := 3) (k := 14) 0 rfl]; exact r1.2.2.1
        · rw [GG.row (t := 3) (k := 17) 0 rfl]; exact r1.2.2.2.1
        · subst hw3
          show _ = nI (qS X ++ [_]).length
          rw [List.length_append]; simp only [mA_A, mL_A, mP_A, mA_L, mL_L, mP_L, upd_at]; simp
        · rw [GG.row (t := 3) (k := 25) 0 rfl]; exact r1.2.2.2.2.2
        · intro t s hs
          rw [G.row (t := 3) (k := 22) 0 rfl, f12.row (t := 3) (k := 22) 0 rfl, r22, g3.row (t := 3) (k := 23) 0 rfl, g2.row (t := 3) (k := 23) 0 rfl, R1, g3.row (t := 3) (k := 24) 0 rfl, R2, g1.row (t := 3) (k := 24) 0 rfl, F2.row (t := 3) (k := 23) 0 rfl, F2.row (t := 3) (k := 24) 0 rfl]
          rcases getA (show (qS X ++ [(p + 1, (if sp = true then nI (tV T (p + 3)) else 0), L)])[t]? = some s from hs) with hj | ⟨rfl, rfl⟩
          · have hlt := (List.getElem?_eq_some_iff.mp hj).1
            have ne : 5 + t ≠ 5 + (qS X).length := by omega
            rw [if_neg ne, if_neg ne, if_neg ne]
            obtain ⟨o1, o2⟩ := r5 t s hj
            exact ⟨o1, o2.mono (by omega) rows⟩
          · rw [if_pos rfl, if_pos rfl, if_pos rfl]
            refine ⟨rfl, c, rfl, rfl, Nat.le_refl _, fun j o hj => ?_⟩
            rw [G.row (t := 3) (k := 29) 0 rfl, G.row (t := 3) (k := 30) 0 rfl]
            exact hC2 j o hj
        · intro r z hz
          obtain ⟨l0, a1, a2, a3, a4⟩ := r6 r z hz
          rw [GG.row (t := 3) (k := 26) 0 rfl, GG.row (t := 3) (k := 27) 0 rfl]
          refine ⟨l0, a1, a2, a3, fun j y hy => (a4 j y hy).mono (by omega) rows (fun kk k1 k2 => ?_)⟩
          have : kk = 32 ∨ kk = 33 ∨ kk = 34 ∨ kk = 35 ∨ kk = 36 ∨ kk = 37 := by omega
          rw [show mA w3 3 0 kk = mA σ 3 0 kk from by rcases this with rfl | rfl | rfl | rfl | rfl | rfl <;> exact GG.row 0 rfl]
        · rw [G.row (t := 3) (k := 28) 0 rfl]; exact hc2
        · rw [GG.row (t := 3) (k := 31) 0 rfl]; exact r10
    · unfold F_X12_tellSky_105
      rw [he]
      exact Ok_t rfl (Ok_r ⟨rfl, hF⟩)
  · rw [if_neg c5]
    have he : t1 T 5 p3 = .error (1, p3) := if_neg c5
    rw [he]
    refine Ok_t rfl (Ok_B (s_wrong hA hK (x := 1) (Or.inl rfl)) (fun v υ hv => ?_))
    unfold F_X12_tellSky_100
    have hv1 : v = 0 := hv.1
    refine Ok_t (by rw [hv1]; decide) (Ok_r ?_)
    rw [hv1]; exact ⟨rfl, hv.2⟩
