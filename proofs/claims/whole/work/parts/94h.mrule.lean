/-! the model's RULES -/
theorem m_rule {T : Tk} {p : Nat} {σ0 σ : Mm} {X : Xt} (hA : AN T σ0) (h : MRX T σ0 X p σ) (hl : (qR X).length ≤ 6) (hk : tK T p = 23) : Ok (F_X12_tellRule σ) (oTm T σ0 (tRu0 T X p)) := by
  obtain ⟨c, l, hcp, hlp, hK, hR⟩ := h
  have n25 : mA σ 3 0 25 1 = nI (qR X).length := hR.1.2.2.2.2.2
  have c1 : (1 : Int32).toNatClampNeg = 1 := rfl
  unfold F_X12_tellRule tRu0
  rw [c1, n25]
  refine Ok_t (by decide) ?_
  by_cases cl : 6 ≤ (qR X).length
  · have e6 : (qR X).length = 6 := by omega
    rw [if_pos cl, e6]
    refine Ok_t rfl (Ok_B (s_wrong hA hK (x := 2) (Or.inr rfl)) (fun v τ hv => ?_))
    unfold F_X12_tellRule_16
    have hv1 : v = 0 := hv.1
    exact Ok_t (by rw [hv1]; decide) (Ok_r hv)
  rw [if_neg cl]
  have lh : (qR X).length < 6 := by omega
  refine Ok_f (fun z => cl (by have := (kq (k := (qR X).length) (c := 6) (by omega) (by omega)).mp z; omega)) ?_
  have hts : tks T [23, 24] p = ebd (t1 T 23 p) (fun q => ebd (t1 T 24 q) (fun q => .ok q)) := rfl
  have fin0 : ∀ e, tks T [23, 24] p = .error e → ∀ τ, MF T σ0 e τ → oTm T σ0 (ebd (tks T [23, 24] p) (fun p2 => ebd (xCond T p2) (fun a => .ok (addR X a.1, a.2)))) (0, τ) := by
    intro e he τ hτ
    rw [he]; exact ⟨rfl, hτ⟩
  refine m_pas hA hK hk (by omega) (fun τ1 t1e K1 f1 => ?_) (fun e τ he hF => ?_)
  · have f1 : Fr [(3, 0, 7), (3, 0, 8), (3, 0, 9)] σ τ1 := f1
    unfold F_X12_tellRule_21
    refine Ok_f ne10 ?_
    rw [show F_X12_isWord 8 τ1 = some (if tK T (p + 1) = 24 then 1 else 0, τ1) from s_isWordM hA K1 (s := 24) (c := 8) (by decide) rfl, bnd_s]
    unfold F_X12_tellRule_32
    by_cases c24 : tK T (p + 1) = 24
    · rw [if_pos c24]
      refine Ok_f ne10 ?_
      refine m_pas hA K1 c24 (by omega) (fun τ2 t2e K2 f2 => ?_) (fun e τ he hF => ?_)
      · have f2 : Fr [(3, 0, 7), (3, 0, 8), (3, 0, 9)] τ1 τ2 := f2
        have F2 : Fr [(3, 0, 7), (3, 0, 8), (3, 0, 9)] σ τ2 := f1.trans f2
        unfold F_X12_tellRule_45
        refine Ok_f ne10 ?_
        have htsk : tks T [23, 24] p = .ok (p + 2) := by rw [hts, t1e, ebd_k, t2e]; rfl
        rw [htsk, ebd_k]
        obtain ⟨r1, r2, r3, r4, r5, r6, r7, r8, r9, r10⟩ := hR
        have K2 : MK T σ0 (p + 2) τ2 := K2
        have hcond : Ok (F_X12_cond τ2) (fun q => match xCond T (p + 2) with
            | .ok a => q.1 = 1 ∧ ∃ cd, MC T σ0 l c (fun j => mA τ2 3 0 29 (500 + j)) (fun j => mA τ2 3 0 30 (500 + j)) (fun kk j => mA τ2 3 0 kk (200 + j)) a.2 (flR a.1 0) cd q.2 ∧ cd ≤ a.2 ∧ 3 * (l + (flR a.1 0).length) ≤ a.2
            | .error e => q.1 = 0 ∧ MF T σ0 e q.2) := by
          refine s_condM hA K2 (by rw [F2.row (t := 3) (k := 28) 0 rfl]; exact r9) (by omega) (by rw [F2.row (t := 3) (k := 31) 0 rfl]; exact r10) (by omega) (fun j _ => ⟨rfl, rfl⟩) (fun kk j _ _ _ => rfl) (fun c' q' hx τ cd hM h1 h2 => ?_) (fun e hx τ hF => ?_)
          · rw [hx]; exact ⟨rfl, cd, hM, h1, h2⟩
          · rw [hx]; exact ⟨rfl, hF⟩
        refine Ok_B (hcond.frI fr_X12_cond) (fun v τ hv => ?_)
        obtain ⟨hv, f3⟩ := hv
        have f3 : Fr W_X12_cond τ2 τ := f3
        unfold F_X12_tellRule_52
        cases hx : xCond T (p + 2) with
        | error e =>
          rw [hx] at hv
          have hv1 : v = 0 := hv.1
          exact Ok_t hv1 (Ok_r ⟨rfl, hv.2⟩)
        | ok a =>
          obtain ⟨cc, q⟩ := a
          rw [hx] at hv
          obtain ⟨hv1, cd, ⟨K3, m28, mcc, mg, m31, mB, mL, m59⟩, h1, h2⟩ := hv
          have hv1 : v = 1 := hv1
          have m31 : mA τ 3 0 31 1 = nI (l + (flR cc 0).length) := m31
          have mL : ∀ j z, (flR cc 0)[j]? = some z → LG τ cd (l + j) z := mL
          have K3 : MK T σ0 q τ := K3
          have h1 : cd ≤ q := h1
          have h2 : 3 * (l + (flR cc 0).length) ≤ q := h2
          have hzz := xCond_ok hA.1 K2.2.2.1 K2.2.2.2.1 hx
          have F3 : Fr [(3, 0, 7), (3, 0, 8), (3, 0, 9), (3, 0, 56), (3, 0, 58), (3, 0, 59), (3, 28, 999), (3, 29, 999), (3, 30, 999), (3, 31, 999), (3, 32, 999), (3, 33, 999), (3, 34, 999), (3, 35, 999), (3, 36, 999), (3, 37, 999), (3, 47, 999)] σ τ := (F2.sub rfl).trans (f3.sub rfl)
          refine Ok_f (by rw [hv1]; decide) (Ok_t (by decide) ?_)
          have ij : inb (nI (6 + (qR X).length)) 30 = true := by
            have : 6 + (qR X).length < 30 := by omega
            generalize 6 + (qR X).length = z at *
            clear K1 K2 K3 hK hA r1 r2 r3 r4 r5 r6 r7 r8 mL mB mg hcond hzz; grind [gI, gB, gC]
          have cj : (nI (6 + (qR X).length)).toNatClampNeg = 6 + (qR X).length := nI_clamp (by omega)
          have n25' : mA τ 3 0 25 1 = nI (qR X).length := by rw [F3.row (t := 3) (k := 25) 0 rfl]; exact n25
          rw [c1, n25', show (6 : Int32) + nI (qR X).length = nI (6 + (qR X).length) from nI_add 6 _, cj, m59]
          refine Ok_t ij ?_
          generalize hw1 : setA τ 3 0 26 (upd (mA τ 3 0 26) (6 + (qR X).length) (nI l)) = w1
          have g1 : Fr [(3, 26, 999)] τ w1 := by subst hw1; exact Fr_r.A rfl
          have R1 : ∀ t, mA w1 3 0 26 t = if t = 6 + (qR X).length then nI l else mA τ 3 0 26 t := by intro t; subst hw1; simp only [mA_A, mL_A, mP_A, mA_L, mL_L, mP_L, upd_at]; simp
          have L1 : MK T σ0 q w1 := K3.fr (by subst hw1; exact K3.1.A rfl (Or.inr ⟨show 6 ≤ _ by omega, show _ < 12 by omega⟩)) g1 rfl
          unfold F_X12_tellRule_75
          rw [c1, show mA w1 3 0 25 1 = nI (qR X).length from by rw [g1.row (t := 3) (k := 25) 0 rfl]; exact n25', show (6 : Int32) + nI (qR X).length = nI (6 + (qR X).length) from nI_add 6 _, cj, show mA w1 3 0 31 1 = nI (l + (flR cc 0).length) from by rw [g1.row (t := 3) (k := 31) 0 rfl]; exact m31]
          refine Ok_t (by decide) (Ok_t (by decide) (Ok_t ij ?_))
          generalize hw2 : setA w1 3 0 27 (upd (mA w1 3 0 27) (6 + (qR X).length) (nI (l + (flR cc 0).length))) = w2
          have g2 : Fr [(3, 27, 999)] w1 w2 := by subst hw2; exact Fr_r.A rfl
          have R2 : ∀ t, mA w2 3 0 27 t = if t = 6 + (qR X).length then nI (l + (flR cc 0).length) else mA w1 3 0 27 t := by intro t; subst hw2; simp only [mA_A, mL_A, mP_A, mA_L, mL_L, mP_L, upd_at]; simp
          have L2 : MK T σ0 q w2 := L1.fr (by subst hw2; exact L1.1.A rfl (Or.inr ⟨show 6 ≤ _ by omega, show _ < 12 by omega⟩)) g2 rfl
          unfold F_X12_tellRule_95 F_X12_tellRule_105
          rw [c1, show mA w2 3 0 25 1 = nI (qR X).length from by rw [g2.row (t := 3) (k := 25) 0 rfl, g1.row (t := 3) (k := 25) 0 rfl]; exact n25', nI_1]
          generalize hw3 : setA w2 3 0 25 (upd (mA w2 3 0 25) 1 (nI ((qR X).length + 1))) = w3
          have g3 : Fr [(3, 25, 999)] w2 w3 := by subst hw3; exact Fr_r.A rfl
          have G : Fr [(3, 26, 999), (3, 27, 999), (3, 25, 999)] τ w3 := ((g1.sub rfl).trans (g2.sub rfl)).trans (g3.sub rfl)
          have GG : Fr [(3, 0, 7), (3, 0, 8), (3, 0, 9), (3, 0, 56), (3, 0, 58), (3, 0, 59), (3, 28, 999), (3, 29, 999), (3, 30, 999), (3, 31, 999), (3, 32, 999), (3, 33, 999), (3, 34, 999), (3, 35, 999), (3, 36, 999), (3, 37, 999), (3, 47, 999), (3, 26, 999), (3, 27, 999), (3, 25, 999)] σ w3 := (F3.sub rfl).trans (G.sub rfl)
          rw [ebd_k]
          have rows : ∀ j, j < c → mA w3 3 0 29 (500 + j) = mA σ 3 0 29 (500 + j) ∧ mA w3 3 0 30 (500 + j) = mA σ 3 0 30 (500 + j) := by
            intro j hj
            rw [G.row (t := 3) (k := 29) 0 rfl, G.row (t := 3) (k := 30) 0 rfl, (mg j hj).1, (mg j hj).2, F2.row (t := 3) (k := 29) 0 rfl, F2.row (t := 3) (k := 30) 0 rfl]
            exact ⟨rfl, rfl⟩
          have lits : ∀ kk j, 32 ≤ kk → kk ≤ 37 → j < l → mA w3 3 0 kk (200 + j) = mA σ 3 0 kk (200 + j) := by
            intro kk j k1 k2 hj
            have : kk = 32 ∨ kk = 33 ∨ kk = 34 ∨ kk = 35 ∨ kk = 36 ∨ kk = 37 := by omega
            rw [show mA w3 3 0 kk = mA τ 3 0 kk from by rcases this with rfl | rfl | rfl | rfl | rfl | rfl <;> exact G.row 0 rfl, mB kk j k1 k2 hj]
            show mA τ2 3 0 kk (200 + j) = _
            rw [show mA τ2 3 0 kk = mA σ 3 0 kk from by rcases this with rfl | rfl | rfl | rfl | rfl | rfl <;> exact F2.row 0 rfl]
          refine Ok_t (by decide) (Ok_t (by decide) (Ok_r ⟨rfl, cd, l + (flR cc 0).length, h1, h2, L2.fr (by subst hw3; exact L2.1.A rfl (Or.inr ⟨by decide, by decide⟩)) g3 rfl, ⟨?_, ?_, ?_, ?_, ?_, ?_⟩, r2.fr GG rfl, r3.fr GG rfl, r4.fr GG rfl, ?_, ?_, r7.fr GG rfl, (r8.fr GG rfl).mono (by show p ≤ q; omega), ?_, ?_⟩))
          · rw [GG.row (t := 3) (k := 7) 0 rfl]; exact r1.1
          · rw [GG.row (t := 3) (k := 8) 0 rfl]; exact r1.2.1
          · rw [GG.row (t := 3) (k := 14) 0 rfl]; exact r1.2.2.1
          · rw [GG.row (t := 3) (k := 17) 0 rfl]; exact r1.2.2.2.1
          · rw [GG.row (t := 3) (k := 21) 0 rfl]; exact r1.2.2.2.2.1
          · subst hw3
            show _ = nI (qR X ++ [cc]).length
            rw [List.length_append]; simp only [mA_A, mL_A, mP_A, mA_L, mL_L, mP_L, upd_at]; simp
          · intro t s hs
            obtain ⟨o1, o2⟩ := r5 t s hs
            rw [GG.row (t := 3) (k := 22) 0 rfl, GG.row (t := 3) (k := 23) 0 rfl, GG.row (t := 3) (k := 24) 0 rfl]
            exact ⟨o1, o2.mono mcc rows⟩
          · intro r z hz
            rw [g3.row (t := 3) (k := 26) 0 rfl, g2.row (t := 3) (k := 26) 0 rfl, R1, g3.row (t := 3) (k := 27) 0 rfl, R2, g1.row (t := 3) (k := 27) 0 rfl, F3.row (t := 3) (k := 26) 0 rfl, F3.row (t := 3) (k := 27) 0 rfl]
            rcases getA (show (qR X ++ [cc])[r]? = some z from hz) with hj | ⟨rfl, rfl⟩
            · have hlt := (List.getElem?_eq_some_iff.mp hj).1
              have ne : 6 + r ≠ 6 + (qR X).length := by omega
              rw [if_neg ne, if_neg ne]
              obtain ⟨l0, a1, a2, a3, a4⟩ := r6 r z hj
              refine ⟨l0, a1, a2, by omega, fun j y hy => ?_⟩
              have hjl := (List.getElem?_eq_some_iff.mp hy).1
              exact (a4 j y hy).mono mcc rows (fun kk k1 k2 => lits kk (l0 + j) k1 k2 (by omega))
            · rw [if_pos rfl, if_pos rfl]
              have hfl : fltC z = flR z 0 := flt_eq z
              rw [hfl]
              refine ⟨l, rfl, rfl, Nat.le_refl _, fun j y hy => ?_⟩
              refine (mL j y hy).mono (Nat.le_refl _) (fun j' _ => ?_) (fun kk k1 k2 => ?_)
              · rw [G.row (t := 3) (k := 29) 0 rfl, G.row (t := 3) (k := 30) 0 rfl]; exact ⟨rfl, rfl⟩
              · have : kk = 32 ∨ kk = 33 ∨ kk = 34 ∨ kk = 35 ∨ kk = 36 ∨ kk = 37 := by omega
                rw [show mA w3 3 0 kk = mA τ 3 0 kk from by rcases this with rfl | rfl | rfl | rfl | rfl | rfl <;> exact G.row 0 rfl]
          · rw [G.row (t := 3) (k := 28) 0 rfl]; exact m28
          · rw [G.row (t := 3) (k := 31) 0 rfl]; exact m31
      · unfold F_X12_tellRule_45
        refine Ok_t rfl (Ok_r (fin0 e ?_ τ hF))
        rw [hts, t1e, ebd_k, he]; rfl
    · rw [if_neg c24]
      refine Ok_t rfl (Ok_B (s_wrong hA K1 (x := 1) (Or.inl rfl)) (fun v τ hv => ?_))
      unfold F_X12_tellRule_40
      have hv1 : v = 0 := hv.1
      refine Ok_t (by rw [hv1]; decide) (Ok_r ?_)
      rw [hv1]
      refine fin0 (1, p + 1) ?_ τ hv.2
      rw [hts, t1e, ebd_k]
      have : t1 T 24 (p + 1) = .error (1, p + 1) := if_neg c24
      rw [this]; rfl
  · unfold F_X12_tellRule_21
    refine Ok_t rfl (Ok_r (fin0 e ?_ τ hF))
    rw [hts, he]; rfl
