/-! the class's TELLS: PLACES whole, RULES, all of a text -/
theorem s_sky {T : Tk} {i p : Nat} {σ0 σ : Mm} {X : Xt} (hA : AM T i σ0) (h : CRX T i σ0 X p σ) (hl : (qS X).length ≤ 5) (hlT : (qT X).length ≤ 14) (hlR : (qR X).length ≤ 6) (hnm : ∀ y, nmd T X y = nmC T X y) : Ok (F_X5_tellSky σ) (oTl T i σ0 (tSk T X p)) := by
  obtain ⟨u, hu, hK, hR⟩ := h
  have hp4 := hK.2.2.2.1
  have hcu := CU_of hR hu hp4
  unfold F_X5_tellSky tSk
  rw [(hA.p hK.1).1]
  refine Ok_t (hA.p hK.1).2 ?_
  rw [hR.1.2.2.2.2.1, hK.2.2.1]
  refine s_room (m := 5) hA hK hcu (by omega) (by omega) (fun c => ?_) (fun τ c hF => ?_)
  · rw [if_neg c]
    have lh : (qS X).length < 5 := by omega
    refine s_chn (k := fun τ => bnv (F_X5_blameIfNamed (nI p + 1) τ) (fun τ => F_X5_tellSky_45 (nI p) τ)) hA [20, 2] p σ hK hcu (by decide) (fun τ ht hk hK1 f => ?_) (fun e τ ht hF => ?_)
    · rw [ht, ebd_k]
      have hp2 : p + 2 ≤ 400 := hK1.2.2.2.1
      have hg2 : gTk T (p + 2) := hK1.2.2.2.2
      have k1 : tK T (p + 1) = 2 := hk 1 2 rfl
      have hR1 := hR.fr f rfl
      obtain ⟨n1, n2, n3, n4, n5, n6, n7, n8⟩ := hR1
      have e1 : nI p + 1 = nI (p + 1) := nI_1 p
      have e3 : nI p + 3 = nI (p + 3) := nI_add p 3
      have iq : inb (nI (qS X).length) 5 = true := by
        generalize (qS X).length = z at *
        clear hA hR hK n1 n2 n3 n4 n5 n6 n7 n8 hK1 hcu; grind [gI, gB, gC]
      show Ok (bnv (F_X5_blameIfNamed (nI p + 1) τ) (fun τ => F_X5_tellSky_45 (nI p) τ)) (oTl T i σ0 (ebd (if tK T (p + 2) = 21 then ebd (tks T [21, 3] (p + 2)) (fun q => .ok (true, q)) else .ok (false, p + 2)) _))
      rw [e1]
      refine Ok_V ((s_twice hA hK1 n7 n1 n2 n5 hlT hl (by omega) (gTk_le hg2 (by omega)) k1).frV fr_X5_blameIfNamed) (fun τ1 hτ1 => ?_)
      obtain ⟨⟨hK2, hB2⟩, f1⟩ := hτ1
      have f1 : Fr [(0, 12, 5), (0, 12, 6)] τ τ1 := f1
      have hB2 : cBl T τ1 (bla (qB X) (nmd T X (p + 1) = true) 3 (p + 1)) := by
        have : nmd T X (p + 1) = nmC T X (p + 1) := hnm (p + 1)
        rw [this]; exact hB2
      unfold F_X5_tellSky_45
      rw [(hA.p hK2.1).1, (n1.fr f1 rfl).2.2.2.2.1, nI_clamp (by omega)]
      refine Ok_t (hA.p hK2.1).2 (Ok_t iq ?_)
      generalize hw0 : setA τ1 1 i 9 (upd (mA τ1 1 i 9) (qS X).length 0) = w0
      have G0 : Fr [(1, 9, 999)] τ1 w0 := by subst hw0; exact Fr_r.A rfl
      have F0 : Fr [(0, 12, 5), (0, 12, 6), (1, 9, 999)] τ w0 := (f1.sub rfl).trans (G0.sub rfl)
      have R9 : ∀ t, mA w0 1 i 9 t = if t = (qS X).length then 0 else mA τ1 1 i 9 t := by
        intro t; subst hw0; simp only [mA_A, mL_A, mP_A, mA_L, mL_L, mP_L, upd_at]; simp
      have K0 : CK T i σ0 (p + 2) w0 := by
        obtain ⟨I, kk2, kk3, kk4, kk5⟩ := hK2
        refine ⟨?_, ?_, ?_, kk4, kk5⟩
        · subst hw0; exact I.A1 rfl
        · rw [G0.fld (t := 0) (k := 12) (f := 0) 0 rfl]; exact kk2
        · rw [G0.fld (t := 0) (k := 12) (f := 4) 0 rfl]; exact kk3
      have sk : ∀ τ' : Mm, Fr [(0, 12, 5), (0, 12, 6), (0, 12, 0), (0, 12, 1), (0, 12, 4), (1, 9, 999)] τ τ' → (∀ t, t ≠ (qS X).length → mA τ' 1 i 9 t = mA τ 1 i 9 t) → cSk T τ' i u X := by
        intro τ' F h9 t s hs
        have hlt := (List.getElem?_eq_some_iff.mp hs).1
        obtain ⟨o1, o2, o3⟩ := n5 t s hs
        exact ⟨by rw [h9 t (by omega)]; exact o1, by rw [F.rowL (t := 0) (k := 14) 0 rfl]; exact o2, o3.fr F rfl⟩
      have h9 : ∀ t, t ≠ (qS X).length → mA w0 1 i 9 t = mA τ 1 i 9 t := by
        intro t ht; rw [R9 t, if_neg ht, f1.row (t := 1) (k := 9) i rfl]
      unfold F_X5_tellSky_63
      rw [s_kind hA K0, bnd_s]
      unfold F_X5_tellSky_67
      by_cases c21 : tK T (p + 2) = 21
      · rw [if_pos c21]
        refine Ok_t (by rw [c21]; rfl) ?_
        have U0 : CU i w0 := ⟨u, by omega, by rw [F0.row (t := 1) (k := 10) i rfl]; exact n8⟩
        refine s_tk hA K0 U0 (c := 21) (by omega) (by omega) (fun τ2 ht2 K1 g1 => ?_) (fun e τ2 ht2 hF => ?_)
        · unfold F_X5_tellSky_78
          refine Ok_f ne10 ?_
          have U1 : CU i τ2 := ⟨u, by omega, by rw [g1.row (t := 1) (k := 10) i rfl, F0.row (t := 1) (k := 10) i rfl]; exact n8⟩
          refine s_tk hA K1 U1 (c := 3) (by omega) (by omega) (fun τ3 ht3 K2 g2 => ?_) (fun e τ3 ht3 hF => ?_)
          · have hts : tks T [21, 3] (p + 2) = .ok (p + 4) := by
              show ebd (t1 T 21 (p + 2)) (fun q => ebd (t1 T 3 q) (fun q => .ok q)) = _
              rw [ht2, ebd_k, ht3]; rfl
            rw [hts, ebd_k, ebd_k]
            dsimp only
            have k3 : tK T (p + 3) = 3 := (t1_ok ht3).1
            have g4 : gTk T (p + 4) := K2.2.2.2.2
            have hp4' : p + 4 ≤ 400 := K2.2.2.2.1
            unfold F_X5_tellSky_86
            rw [e3]
            have B3 : cBl T τ3 (bla (qB X) (nmd T X (p + 1) = true) 3 (p + 1)) := ((hB2.fr G0 rfl).fr g1 rfl).fr g2 rfl
            refine Ok_f ne10 (Ok_V ((s_above (m := 20) hA K2 B3 (by omega) (gTk_le g4 (by omega)) k3 (by omega)).frV fr_X5_blameAbove) (fun τ4 hτ4 => ?_))
            obtain ⟨⟨K3, B4⟩, g3⟩ := hτ4
            have g3 : Fr [(0, 12, 5), (0, 12, 6)] τ3 τ4 := g3
            unfold F_X5_tellSky_98
            have i3 : inb (nI (p + 3)) 402 = true := by
              have : p + 3 < 402 := by omega
              generalize p + 3 = z at *
              clear hA hR hK n1 n2 n3 n4 n5 n6 n7 n8 hK1 hcu sk K0 K1 K2 K3 B3 B4 hB2; grind [gI, gB, gC]
            rw [e3, (hA.p K3.1).1, nI_clamp (by omega), nI_clamp (by omega), (hA.t K3.1 (by omega) (gTk_le g4 (by omega))).2.2.1 k3]
            refine Ok_t (hA.p K3.1).2 (Ok_t i3 (Ok_t iq ?_))
            generalize hw1 : setA τ4 1 i 9 (upd (mA τ4 1 i 9) (qS X).length (nI (tV T (p + 3)))) = w1
            have G1 : Fr [(1, 9, 999)] τ4 w1 := by subst hw1; exact Fr_r.A rfl
            have S9 : ∀ t, mA w1 1 i 9 t = if t = (qS X).length then nI (tV T (p + 3)) else mA τ4 1 i 9 t := by
              intro t; subst hw1; simp only [mA_A, mL_A, mP_A, mA_L, mL_L, mP_L, upd_at]; simp
            have K4 : CK T i σ0 (p + 4) w1 := by
              obtain ⟨I, kk2, kk3, kk4, kk5⟩ := K3
              refine ⟨?_, ?_, ?_, kk4, kk5⟩
              · subst hw1; exact I.A1 rfl
              · rw [G1.fld (t := 0) (k := 12) (f := 0) 0 rfl]; exact kk2
              · rw [G1.fld (t := 0) (k := 12) (f := 4) 0 rfl]; exact kk3
            have FF : Fr [(0, 12, 5), (0, 12, 6), (0, 12, 0), (0, 12, 1), (0, 12, 4), (1, 9, 999)] τ w1 := (((F0.sub rfl).trans (g1.sub rfl)).trans ((g2.sub rfl).trans (g3.sub rfl))).trans (G1.sub rfl)
            refine sky118 hA (by omega) hu lh k1 K4 (n1.fr FF rfl) (n2.fr FF rfl) (n3.fr FF rfl) (n4.fr FF rfl) (sk w1 FF (fun t ht => ?_)) (n6.fr FF rfl) hlR (B4.fr G1 rfl) (by rw [FF.row (t := 1) (k := 10) i rfl]; exact n8) (by rw [S9, if_pos rfl]; rfl) (fun L => addS T X p true L) (fun L => rfl)
            rw [S9 t, if_neg ht, g3.row (t := 1) (k := 9) i rfl, g2.row (t := 1) (k := 9) i rfl, g1.row (t := 1) (k := 9) i rfl]
            exact h9 t ht
          · have hts : tks T [21, 3] (p + 2) = .error e := by
              show ebd (t1 T 21 (p + 2)) (fun q => ebd (t1 T 3 q) (fun q => .ok q)) = _
              rw [ht2, ebd_k]
              show ebd (t1 T 3 (p + 2 + 1)) _ = _
              rw [ht3]; rfl
            rw [hts]
            unfold F_X5_tellSky_86
            exact Ok_t rfl (sky118F hA lh (by omega) hF)
        · have hts : tks T [21, 3] (p + 2) = .error e := by
            show ebd (t1 T 21 (p + 2)) _ = _
            rw [ht2]; rfl
          rw [hts]
          unfold F_X5_tellSky_78
          exact Ok_t rfl (sky118F hA lh (by omega) hF)
      · rw [if_neg c21, ebd_k]
        dsimp only
        have hk36 := hA.1.1 (p + 2)
        refine Ok_f (fun z => c21 ((kq (by omega) (by omega)).mp z)) ?_
        have FF : Fr [(0, 12, 5), (0, 12, 6), (0, 12, 0), (0, 12, 1), (0, 12, 4), (1, 9, 999)] τ w0 := F0.sub rfl
        exact sky118 hA (by omega) hu lh k1 K0 (n1.fr FF rfl) (n2.fr FF rfl) (n3.fr FF rfl) (n4.fr FF rfl) (sk w0 FF h9) (n6.fr FF rfl) hlR (hB2.fr G0 rfl) (by rw [FF.row (t := 1) (k := 10) i rfl]; exact n8) (by rw [R9, if_pos rfl]; rfl) (fun L => addS T X p false L) (fun L => rfl)
    · rw [ht]; exact hF
  · rw [if_pos c]
    exact Ok_t rfl (Ok_r hF)
theorem rule176F {T : Tk} {i q : Nat} {σ0 σ : Mm} {e : Nat × Nat} (hA : AM T i σ0) (hq : q < 11) (h : CF T i σ0 e σ) : Ok (F_X5_tellRule_176 (nI q) σ) (CF T i σ0 e) := by
  unfold F_X5_tellRule_176 F_X5_tellRule_187 F_X5_tellRule_192
  refine Ok_t (hA.p h.1).2 ?_
  rw [(hA.p h.1).1]
  refine Ok_V (closeF hq h) (fun τ hτ => ?_)
  rw [s_takeF hτ, bnd_s, (hA.p hτ.1).1]
  exact Ok_t (hA.p hτ.1).2 (Ok_r (hτ.set rfl (by decide)))
theorem rule159F {T : Tk} {i q : Nat} {σ0 σ : Mm} {e : Nat × Nat} {y : Int32} (hA : AM T i σ0) (hq : q < 11) (h : CF T i σ0 e σ) : Ok (F_X5_tellRule_159 (nI q) y σ) (CF T i σ0 e) := by
  unfold F_X5_tellRule_159
  refine Ok_s (fun _ => rule176F hA hq h) (fun _ => Ok_t (hA.p h.1).2 ?_)
  rw [(hA.p h.1).1]
  exact Ok_V (s_putF h) (fun τ hτ => rule176F hA hq hτ)
theorem rule56F {T : Tk} {i q : Nat} {σ0 σ : Mm} {e : Nat × Nat} (hA : AM T i σ0) (hq : q < 11) (h : CF T i σ0 e σ) : Ok (F_X5_tellRule_56 (nI q) σ) (CF T i σ0 e) := by
  unfold F_X5_tellRule_56
  show Ok (B_X5_tellRule_60 (F_X5_tellRule_60 999999) _ _ _ _) _
  unfold B_X5_tellRule_60
  exact Ok_s (fun _ => rule159F hA hq h) (fun _ => Ok_f h.ne (rule159F hA hq h))
theorem rule40F {T : Tk} {i q : Nat} {σ0 σ : Mm} {e : Nat × Nat} {v : Int32} (hA : AM T i σ0) (hq : q < 11) (h : CF T i σ0 e σ) : Ok (F_X5_tellRule_40 (nI q) v σ) (CF T i σ0 e) := by
  unfold F_X5_tellRule_40 F_X5_tellRule_52
  refine Ok_t (hA.p h.1).2 ?_
  rw [(hA.p h.1).1]
  exact Ok_V (openF hq h) (fun τ hτ => Ok_V (litF hA hτ) (fun υ hυ => rule56F hA hq hυ))
theorem s_rule {T : Tk} {i p : Nat} {σ0 σ : Mm} {X : Xt} (hA : AM T i σ0) (h : CRX T i σ0 X p σ) (hl : (qR X).length ≤ 6) (hlS : (qS X).length ≤ 5) : Ok (F_X5_tellRule σ) (oTl T i σ0 (tRu T X p)) := by
  obtain ⟨u, hu, hK, hR⟩ := h
  have hp4 := hK.2.2.2.1
  have hcu := CU_of hR hu hp4
  unfold F_X5_tellRule tRu
  rw [(hA.p hK.1).1]
  refine Ok_t (hA.p hK.1).2 ?_
  rw [hR.1.2.2.2.2.2]
  refine s_room (m := 6) hA hK hcu (by omega) (by omega) (fun c => ?_) (fun τ c hF => ?_)
  · rw [if_neg c]
    have lh : (qR X).length < 6 := by omega
    unfold F_X5_tellRule_13
    rw [(hA.p hK.1).1]
    refine Ok_f ne10 (Ok_t (hA.p hK.1).2 ?_)
    rw [hR.1.2.2.2.2.2, show (5 : Int32) + nI (qR X).length = nI (5 + (qR X).length) from nI_add 5 _]
    have hq11 : 5 + (qR X).length < 11 := by omega
    unfold F_X5_tellRule_27
    refine s_tk hA hK hcu (c := 23) (by omega) (by omega) (fun τ ht K1 f1 => ?_) (fun e τ ht hF => ?_)
    · unfold F_X5_tellRule_33
      have U1 : CU i τ := ⟨u, by omega, by rw [f1.row (t := 1) (k := 10) i rfl]; exact hR.2.2.2.2.2.2.2⟩
      refine s_tk hA K1 U1 (c := 24) (by omega) (by omega) (fun τ1 ht1 K2 f2 => ?_) (fun e τ1 ht1 hF => ?_)
      · have hts : tks T [23, 24] p = .ok (p + 2) := by
          show ebd (t1 T 23 p) (fun q => ebd (t1 T 24 q) (fun q => .ok q)) = _
          rw [ht, ebd_k, ht1]; rfl
        rw [hts, ebd_k]
        have F : Fr [(0, 12, 0), (0, 12, 1), (0, 12, 4)] σ τ1 := (f1.sub rfl).trans (f2.sub rfl)
        obtain ⟨n1, n2, n3, n4, n5, n6, n7, n8⟩ := hR.fr F rfl
        unfold F_X5_tellRule_40 F_X5_tellRule_52 F_X5_tellRule_56
        rw [(hA.p K2.1).1]
        refine Ok_t (hA.p K2.1).2 ?_
        rw [s_open hq11, bnv_s, n8]
        generalize hw1 : setA (setA τ1 1 i 13 (upd (mA τ1 1 i 13) (5 + (qR X).length) (nI u))) 1 i 14 (upd (mA (setA τ1 1 i 13 (upd (mA τ1 1 i 13) (5 + (qR X).length) (nI u))) 1 i 14) (5 + (qR X).length) (nI u)) = w1
        have F1 : Fr [(1, 13, 999), (1, 14, 999)] τ1 w1 := by subst hw1; exact (Fr_r.A rfl).A rfl
        have R13 : ∀ t, mA w1 1 i 13 t = if t = 5 + (qR X).length then nI u else mA τ1 1 i 13 t := by
          intro t; subst hw1; simp only [mA_A, mL_A, mP_A, mA_L, mL_L, mP_L, upd_at]; simp
        have R14 : ∀ t, t ≠ 5 + (qR X).length → mA w1 1 i 14 t = mA τ1 1 i 14 t := by
          intro t ht; subst hw1; simp only [mA_A, mL_A, mP_A, mA_L, mL_L, mP_L, upd_at]; simp [ht]
        have K3 : CK T i σ0 (p + 2) w1 := by
          refine ⟨?_, ?_, ?_, K2.2.2.2.1, K2.2.2.2.2⟩
          · subst hw1; exact (K2.1.A1 rfl).A1 rfl
          · rw [F1.fld (t := 0) (k := 12) (f := 0) 0 rfl]; exact K2.2.1
          · rw [F1.fld (t := 0) (k := 12) (f := 4) 0 rfl]; exact K2.2.2.1
        have X2 : CX T i σ0 u (fun j => mA w1 1 i 11 j) (fun j => mA w1 1 i 12 j) (p + 2) [] w1 :=
          ⟨K3, by rw [F1.row (t := 1) (k := 10) i rfl]; exact n8, fun j _ => ⟨rfl, rfl⟩, fun j z hj => by cases hj⟩
        have whole : Ok (bnv (F_X5_literal w1) (fun τ => F_X5_tellRule_60 FU (nI (5 + (qR X).length)) 0 0 τ)) (fun φ => oTl T i σ0 (ebd (xCond T (p + 2)) (fun a => ebd (t1 T 4 a.2) (fun q => .ok (addR X a.1, q)))) φ) := by
          -- what stands behind the COND
          have hk : ∀ υ, Fr W_X5_literal w1 υ → oCd T i σ0 u (fun j => mA w1 1 i 11 j) (fun j => mA w1 1 i 12 j) [] (xCond T (p + 2)) υ → Ok (F_X5_tellRule_176 (nI (5 + (qR X).length)) υ) (fun φ => oTl T i σ0 (ebd (xCond T (p + 2)) (fun a => ebd (t1 T 4 a.2) (fun q => .ok (addR X a.1, q)))) φ) := by
            intro υ f3 hυ
            cases hr : xCond T (p + 2) with
            | error e =>
              rw [hr] at hυ
              exact rule176F hA hq11 hυ
            | ok a =>
              obtain ⟨cd, q2⟩ := a
              rw [hr] at hυ
              obtain ⟨K4, U3, O3, C3⟩ := hυ
              have U3 : mA υ 1 i 10 0 = nI (u + (encC cd).length) := U3
              have C3 : ∀ j z, (encC cd)[j]? = some z → mA υ 1 i 11 (u + j) = z.1 ∧ (z.1 = 3 → mA υ 1 i 12 (u + j) = z.2) := C3
              obtain ⟨z1, z2, z3, z4, z5⟩ := xCond_ok hA.1 K2.2.2.2.1 K2.2.2.2.2 hr
              rw [ebd_k]
              dsimp only
              unfold F_X5_tellRule_176
              rw [(hA.p K4.1).1]
              refine Ok_t (hA.p K4.1).2 ?_
              rw [s_close hq11, bnv_s, U3]
              generalize hw2 : setA υ 1 i 14 (upd (mA υ 1 i 14) (5 + (qR X).length) (nI (u + (encC cd).length))) = w2
              have F2 : Fr [(1, 14, 999)] υ w2 := by subst hw2; exact Fr_r.A rfl
              have S14 : ∀ t, mA w2 1 i 14 t = if t = 5 + (qR X).length then nI (u + (encC cd).length) else mA υ 1 i 14 t := by
                intro t; subst hw2; simp only [mA_A, mL_A, mP_A, mA_L, mL_L, mP_L, upd_at]; simp
              have K5 : CK T i σ0 q2 w2 := by
                refine ⟨?_, ?_, ?_, K4.2.2.2.1, K4.2.2.2.2⟩
                · subst hw2; exact K4.1.A1 rfl
                · rw [F2.fld (t := 0) (k := 12) (f := 0) 0 rfl]; exact K4.2.1
                · rw [F2.fld (t := 0) (k := 12) (f := 4) 0 rfl]; exact K4.2.2.1
              have U4 : mA w2 1 i 10 0 = nI (u + (encC cd).length) := by rw [F2.row (t := 1) (k := 10) i rfl]; exact U3
              unfold F_X5_tellRule_187
              refine s_tk hA K5 ⟨_, by omega, U4⟩ (c := 4) (by omega) (by omega) (fun φ ht2 K6 f4 => ?_) (fun e φ ht2 hF => ?_)
              · rw [ht2, ebd_k]
                unfold F_X5_tellRule_192
                rw [(hA.p K6.1).1]
                refine Ok_t (hA.p K6.1).2 (Ok_r ⟨u + (encC cd).length, by omega, ?_⟩)
                have G : Fr [(0, 12, 0), (0, 12, 1), (0, 12, 4), (1, 13, 999), (1, 14, 999), (1, 10, 0), (1, 11, 999), (1, 12, 999)] τ1 φ := (((F1.sub rfl).trans (f3.sub rfl)).trans (F2.sub rfl)).trans (f4.sub rfl)
                have GG : Fr [(0, 12, 0), (0, 12, 1), (0, 12, 4), (1, 13, 999), (1, 14, 999), (1, 10, 0), (1, 11, 999), (1, 12, 999), (1, 0, 14)] τ1 (setA φ 1 i 0 (upd (mA φ 1 i 0) 14 (mA φ 1 i 0 14 + 1))) := (G.sub rfl).A rfl
                have H : Fr [(1, 0, 14)] φ (setA φ 1 i 0 (upd (mA φ 1 i 0) 14 (mA φ 1 i 0 14 + 1))) := Fr_r.A rfl
                have rows : ∀ j, j < u → mA φ 1 i 11 j = mA τ1 1 i 11 j ∧ mA φ 1 i 12 j = mA τ1 1 i 12 j := by
                  intro j hj
                  rw [f4.row (t := 1) (k := 11) i rfl, f4.row (t := 1) (k := 12) i rfl, F2.row (t := 1) (k := 11) i rfl, F2.row (t := 1) (k := 12) i rfl, (O3 j hj).1, (O3 j hj).2, F1.row (t := 1) (k := 11) i rfl, F1.row (t := 1) (k := 12) i rfl]
                  exact ⟨rfl, rfl⟩
                have r13 : ∀ t, mA φ 1 i 13 t = if t = 5 + (qR X).length then nI u else mA τ1 1 i 13 t := by
                  intro t
                  rw [f4.row (t := 1) (k := 13) i rfl, F2.row (t := 1) (k := 13) i rfl, f3.row (t := 1) (k := 13) i rfl, R13 t]
                have r14 : ∀ t, mA φ 1 i 14 t = if t = 5 + (qR X).length then nI (u + (encC cd).length) else mA τ1 1 i 14 t := by
                  intro t
                  rw [f4.row (t := 1) (k := 14) i rfl, S14 t]
                  by_cases c : t = 5 + (qR X).length
                  · rw [if_pos c, if_pos c]
                  · rw [if_neg c, if_neg c, f3.row (t := 1) (k := 14) i rfl, R14 t c]
                refine ⟨⟨K6.1.A1 rfl, ?_, ?_, K6.2.2.2.1, K6.2.2.2.2⟩, ?_, n2.fr GG rfl, n3.fr GG rfl, n4.fr GG rfl, ?_, ?_, n7.fr GG rfl, ?_⟩
                · rw [H.fld (t := 0) (k := 12) (f := 0) 0 rfl]; exact K6.2.1
                · rw [H.fld (t := 0) (k := 12) (f := 4) 0 rfl]; exact K6.2.2.1
                · have z : mA φ 1 i 0 14 = nI (qR X).length := by
                    rw [G.row (t := 1) (k := 0) i rfl]; exact n1.2.2.2.2.2
                  refine ⟨?_, ?_, ?_, ?_, ?_, ?_⟩
                  · rw [GG.fld (t := 1) (k := 0) (f := 0) i rfl]; exact n1.1
                  · rw [GG.fld (t := 1) (k := 0) (f := 1) i rfl]; exact n1.2.1
                  · rw [GG.fld (t := 1) (k := 0) (f := 6) i rfl]; exact n1.2.2.1
                  · rw [GG.fld (t := 1) (k := 0) (f := 8) i rfl]; exact n1.2.2.2.1
                  · rw [GG.fld (t := 1) (k := 0) (f := 12) i rfl]; exact n1.2.2.2.2.1
                  · rw [mA_A, if_pos ⟨rfl, rfl, rfl⟩, upd_at, if_pos rfl, z, nI_1]
                    show _ = nI (qR X ++ [cd]).length
                    rw [List.length_append]; rfl
                · intro t s hs
                  have hlt := (List.getElem?_eq_some_iff.mp (show (qS X)[t]? = some s from hs)).1
                  obtain ⟨o1, o2, o3⟩ := n5 t s hs
                  have ne : t ≠ 5 + (qR X).length := by omega
                  rw [GG.row (t := 1) (k := 9) i rfl, GG.rowL (t := 0) (k := 14) 0 rfl]
                  refine ⟨o1, o2, o3.mono (by omega) ?_ ?_ (fun j hj => ?_)⟩
                  · rw [H.row (t := 1) (k := 13) i rfl, r13 t, if_neg ne]
                  · rw [H.row (t := 1) (k := 14) i rfl, r14 t, if_neg ne]
                  · rw [H.row (t := 1) (k := 11) i rfl, H.row (t := 1) (k := 12) i rfl]; exact rows j hj
                · intro r c hc
                  rcases getA (show (qR X ++ [cd])[r]? = some c from hc) with hj | ⟨rfl, rfl⟩
                  · have hlt := (List.getElem?_eq_some_iff.mp hj).1
                    have ne : 5 + r ≠ 5 + (qR X).length := by omega
                    refine (n6 r c hj).mono (by omega) ?_ ?_ (fun j hj => ?_)
                    · rw [H.row (t := 1) (k := 13) i rfl, r13, if_neg ne]
                    · rw [H.row (t := 1) (k := 14) i rfl, r14, if_neg ne]
                    · rw [H.row (t := 1) (k := 11) i rfl, H.row (t := 1) (k := 12) i rfl]; exact rows j hj
                  · refine ⟨u, ?_, ?_, Nat.le_refl _, fun j z hz => ?_⟩
                    · rw [H.row (t := 1) (k := 13) i rfl, r13, if_pos rfl]
                    · rw [H.row (t := 1) (k := 14) i rfl, r14, if_pos rfl]
                    · rw [H.row (t := 1) (k := 11) i rfl, H.row (t := 1) (k := 12) i rfl, f4.row (t := 1) (k := 11) i rfl, f4.row (t := 1) (k := 12) i rfl, F2.row (t := 1) (k := 11) i rfl, F2.row (t := 1) (k := 12) i rfl]
                      exact C3 j z hz
                · rw [H.row (t := 1) (k := 10) i rfl, f4.row (t := 1) (k := 10) i rfl]; exact U4
              · rw [ht2]
                unfold F_X5_tellRule_192
                rw [(hA.p hF.1).1]
                exact Ok_t (hA.p hF.1).2 (Ok_r (hF.set rfl (by decide)))
          have hkF : ∀ e υ, xCond T (p + 2) = .error e → CF T i σ0 e υ → Ok (F_X5_tellRule_176 (nI (5 + (qR X).length)) υ) (fun φ => oTl T i σ0 (ebd (xCond T (p + 2)) (fun a => ebd (t1 T 4 a.2) (fun q => .ok (addR X a.1, q)))) φ) := by
            intro e υ he hυ
            rw [he]
            exact rule176F hA hq11 hυ
          refine Ok_V ((s_literal hA (by omega) X2 (by show u + 0 ≤ p + 2; omega)).frV fr_X5_literal) (fun υ hυ => ?_)
          obtain ⟨hυ, f3⟩ := hυ
          have f3 : Fr W_X5_literal w1 υ := f3
          cases hl : xLit T (p + 2) with
          | error e =>
            rw [hl] at hυ
            have hυ : CF T i σ0 e υ := hυ
            have he : xCond T (p + 2) = .error e := by unfold xCond; rw [hl]; rfl
            rw [he]
            exact rule56F hA hq11 hυ
          | ok a =>
            obtain ⟨l, q1⟩ := a
            rw [hl] at hυ
            have hυ : CX T i σ0 u _ _ q1 ([] ++ encL l) υ := hυ
            obtain ⟨z1, z2, z3, z4, z5⟩ := xLit_ok hA.1 K2.2.2.2.1 K2.2.2.2.2 hl
            have hR : xC T XF [] [l] q1 = xCond T (p + 2) := by unfold xCond; rw [hl, ebd_k]
            have e2 : ([] : List (Int32 × Int32)) ++ encC [] ++ encR [l] = [] ++ encL l := by show [] ++ (encL l ++ []) = _; rw [List.append_nil]
            exact rule_60 (x := nI (5 + (qR X).length)) (C := []) hA hk hkF FU XF 0 q1 [] [l] υ hR (by show _ < 1000000; omega) (by show 500 ≤ 500 + _; omega) (by omega) ⟨by simp, fun x hx => by rw [List.mem_singleton.mp hx]; exact z5⟩ (by rw [e2]; exact hυ) f3 (by rw [e2, if_pos rfl]; show u + (encL l).length + 0 ≤ q1; omega)
        exact whole
      · have hts : tks T [23, 24] p = .error e := by
          show ebd (t1 T 23 p) (fun q => ebd (t1 T 24 q) (fun q => .ok q)) = _
          rw [ht, ebd_k, ht1]; rfl
        rw [hts]
        exact rule40F hA hq11 hF
    · have hts : tks T [23, 24] p = .error e := by
        show ebd (t1 T 23 p) _ = _
        rw [ht]; rfl
      rw [hts]
      unfold F_X5_tellRule_33
      rw [s_takeF hF, bnd_s]
      exact rule40F hA hq11 hF
  · rw [if_pos c]
    unfold F_X5_tellRule_13
    exact Ok_t rfl (Ok_r hF)
