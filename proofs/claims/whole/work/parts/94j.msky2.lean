theorem m_sky {T : Tk} {p : Nat} {σ0 σ : Mm} {X : Xt} (hA : AN T σ0) (h : MRX T σ0 X p σ) (hl : (qS X).length ≤ 5) (hX : nkX T X) (hL : (qS X).length < 5 → (qL X).length < 20) (hk : tK T p = 20) : Ok (F_X12_tellSky σ) (oTm T σ0 (tSk0 T X p)) := by
  obtain ⟨c, l, hcp, hlp, hK, hR⟩ := h
  have n21 : mA σ 3 0 21 1 = nI (qS X).length := hR.1.2.2.2.2.1
  have c1 : (1 : Int32).toNatClampNeg = 1 := rfl
  unfold F_X12_tellSky tSk0
  rw [c1, n21]
  refine Ok_t (by decide) ?_
  by_cases cl : 5 ≤ (qS X).length
  · have e5 : (qS X).length = 5 := by omega
    rw [if_pos cl, e5]
    refine Ok_t rfl (Ok_B (s_wrong hA hK (x := 2) (Or.inr rfl)) (fun v τ hv => ?_))
    unfold F_X12_tellSky_15
    have hv1 : v = 0 := hv.1
    exact Ok_t (by rw [hv1]; decide) (Ok_r hv)
  rw [if_neg cl]
  have lh : (qS X).length < 5 := by omega
  refine Ok_f (fun z => cl (by have := (kq (k := (qS X).length) (c := 5) (by omega) (by omega)).mp z; omega)) (Ok_t (by decide) ?_)
  rw [show (5 : Int32) + nI (qS X).length = nI (5 + (qS X).length) from nI_add 5 _]
  have ij : inb (nI (5 + (qS X).length)) 25 = true := by
    have : 5 + (qS X).length < 25 := by omega
    generalize 5 + (qS X).length = z at *
    clear hR hK hk n21 hA hX hL; grind [gI, gB, gC]
  have cj : (nI (5 + (qS X).length)).toNatClampNeg = 5 + (qS X).length := nI_clamp (by omega)
  have hts : tks T [20, 2] p = ebd (t1 T 20 p) (fun q => ebd (t1 T 2 q) (fun q => .ok q)) := rfl
  unfold F_X12_tellSky_25
  refine m_pas hA hK hk (by omega) (fun τ1 t1e K1 f1 => ?_) (fun e τ he hF => ?_)
  · unfold F_X12_tellSky_29
    have f1 : Fr [(3, 0, 7), (3, 0, 8), (3, 0, 9)] σ τ1 := f1
    have B1 : mBl T τ1 (p + 1) (qB X) := ((hR.2.2.2.2.2.2.2.1).fr f1 rfl).mono (by omega)
    refine Ok_f ne10 ?_
    refine m_names hA K1 hX (hL lh) ((hR.2.2.2.2.2.2.1).fr f1 rfl) B1 (fun τ2 t2e K2 N2 B2 f2 => ?_) (fun e τ he hF => ?_)
    · have f2 : Fr [(3, 0, 7), (3, 0, 8), (3, 0, 9), (3, 0, 10), (3, 0, 11), (3, 0, 49), (3, 43, 999), (3, 44, 999)] τ1 τ2 := f2
      have K2 : MK T σ0 (p + 2) τ2 := K2
      have htsk : tks T [20, 2] p = .ok (p + 2) := by rw [hts, t1e, ebd_k, t2e]; rfl
      rw [htsk, ebd_k]
      unfold F_X12_tellSky_37
      refine Ok_f ne10 (Ok_t ij ?_)
      rw [cj]
      generalize hw2 : setA τ2 3 0 22 (upd (mA τ2 3 0 22) (5 + (qS X).length) 0) = w2
      have g2 : Fr [(3, 22, 999)] τ2 w2 := by subst hw2; exact Fr_r.A rfl
      have R2 : ∀ t, mA w2 3 0 22 t = if t = 5 + (qS X).length then 0 else mA τ2 3 0 22 t := by intro t; subst hw2; simp only [mA_A, mL_A, mP_A, mA_L, mL_L, mP_L, upd_at]; simp
      have K2' : MK T σ0 (p + 2) w2 := K2.fr (by subst hw2; exact K2.1.A rfl (Or.inr ⟨show 5 ≤ _ by omega, show _ < 10 by omega⟩)) g2 rfl
      have F2 : Fr [(3, 0, 7), (3, 0, 8), (3, 0, 9), (3, 0, 10), (3, 0, 11), (3, 0, 49), (3, 0, 55), (3, 22, 999), (3, 43, 999), (3, 44, 999)] σ w2 := ((f1.sub rfl).trans (f2.sub rfl)).trans (g2.sub rfl)
      have r22 : ∀ t, mA w2 3 0 22 t = if t = 5 + (qS X).length then 0 else mA σ 3 0 22 t := by
        intro t; rw [R2, f2.row (t := 3) (k := 22) 0 rfl, f1.row (t := 3) (k := 22) 0 rfl]
      unfold F_X12_tellSky_49
      rw [show F_X12_isWord 5 w2 = some (if tK T (p + 2) = 21 then 1 else 0, w2) from s_isWordM hA K2' (s := 21) (c := 5) (by decide) rfl, bnd_s]
      unfold F_X12_tellSky_54
      by_cases c21 : tK T (p + 2) = 21
      · rw [if_pos c21, if_pos c21]
        have hts2 : tks T [21, 3] (p + 2) = ebd (t1 T 21 (p + 2)) (fun q => ebd (t1 T 3 q) (fun q => .ok q)) := rfl
        refine Ok_f ne10 (m_pas hA K2' c21 (by omega) (fun τ3 t3e K3 f3 => ?_) (fun e τ he hF => ?_))
        · have f3 : Fr [(3, 0, 7), (3, 0, 8), (3, 0, 9)] w2 τ3 := f3
          unfold F_X12_tellSky_61
          refine Ok_f ne10 ?_
          have K3 : MK T σ0 (p + 3) τ3 := K3
          have B3 : mBl T τ3 (p + 3) (bla (qB X) (nmd T X (p + 1) = true) 3 (p + 1)) := ((B2.fr g2 rfl).fr f3 rfl).mono (by omega)
          refine m_int (m := 20) hA K3 B3 (by omega) (fun τ4 t4e K4 v4 B4 f4 => ?_) (fun e τ he hF => ?_)
          · unfold F_X12_tellSky_71
            refine Ok_f ne10 (Ok_t ij ?_)
            rw [cj, v4]
            generalize hw4 : setA τ4 3 0 22 (upd (mA τ4 3 0 22) (5 + (qS X).length) (nI (tV T (p + 3)))) = w4
            have g4 : Fr [(3, 22, 999)] τ4 w4 := by subst hw4; exact Fr_r.A rfl
            have R4 : ∀ t, mA w4 3 0 22 t = if t = 5 + (qS X).length then nI (tV T (p + 3)) else mA τ4 3 0 22 t := by intro t; subst hw4; simp only [mA_A, mL_A, mP_A, mA_L, mL_L, mP_L, upd_at]; simp
            have K4' : MK T σ0 (p + 4) w4 := K4.fr (by subst hw4; exact K4.1.A rfl (Or.inr ⟨show 5 ≤ _ by omega, show _ < 10 by omega⟩)) g4 rfl
            have F4 : Fr [(3, 0, 7), (3, 0, 8), (3, 0, 9), (3, 0, 10), (3, 0, 11), (3, 0, 49), (3, 0, 55), (3, 22, 999), (3, 43, 999), (3, 44, 999)] σ w4 := F2.trans (((f3.sub rfl).trans (f4.sub rfl)).trans (g4.sub rfl))
            have htsk2 : tks T [21, 3] (p + 2) = .ok (p + 4) := by
              rw [hts2, t3e, ebd_k]
              have t4e : t1 T 3 (p + 2 + 1) = .ok (p + 4) := t4e
              rw [t4e]; rfl
            rw [htsk2, ebd_k, ebd_k]
            refine m_sky86 (sp := true) (p3 := p + 4) hA hR hcp hlp lh (by omega) K4' F4 (fun t => ?_) (fun X' e => (((N2 X' e).fr g2 rfl).fr ((f3.sub rfl).trans (f4.sub rfl) : Fr [(3, 0, 7), (3, 0, 8), (3, 0, 9), (3, 0, 10), (3, 0, 11), (3, 0, 55)] w2 τ4) rfl).fr g4 rfl) (B4.fr g4 rfl)
            rw [R4, f4.row (t := 3) (k := 22) 0 rfl, f3.row (t := 3) (k := 22) 0 rfl, r22]
            by_cases ct : t = 5 + (qS X).length
            · rw [if_pos ct, if_pos ct]; rfl
            · rw [if_neg ct, if_neg ct, if_neg ct]
          · unfold F_X12_tellSky_71
            have he : t1 T 3 (p + 2 + 1) = .error e := he
            rw [hts2, t3e, ebd_k, he]
            exact Ok_t rfl (Ok_r ⟨rfl, hF⟩)
        · unfold F_X12_tellSky_61
          rw [hts2, he]
          exact Ok_t rfl (Ok_r ⟨rfl, hF⟩)
      · rw [if_neg c21, if_neg c21, ebd_k]
        refine Ok_t rfl ?_
        refine m_sky86 (sp := false) (p3 := p + 2) hA hR hcp hlp lh (by omega) K2' F2 (fun t => ?_) (fun X' e => (N2 X' e).fr g2 rfl) (B2.fr g2 rfl)
        rw [r22]; rfl
    · unfold F_X12_tellSky_37
      rw [hts, t1e, ebd_k, he]
      exact Ok_t rfl (Ok_r ⟨rfl, hF⟩)
  · unfold F_X12_tellSky_29
    rw [hts, he]
    exact Ok_t rfl (Ok_r ⟨rfl, hF⟩)
