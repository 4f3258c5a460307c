/-! the class's TELLS: PLACES, RULES -/
theorem CF.set {T : Tk} {i k j : Nat} {σ0 σ : Mm} {e : Nat × Nat} {v : Int32} (h : CF T i σ0 e σ) (hw : inW WRd 1 k j = true) (hk : k ≠ 10) : CF T i σ0 e (setA σ 1 i k (upd (mA σ 1 i k) j v)) := by
  obtain ⟨h1, h2, h3, h4, ⟨p, hp, hg, ha⟩, u, hu, hv⟩ := h
  refine ⟨h1.A1 hw, h2, ?_, ?_, ⟨p, hp, hg, ?_⟩, u, hu, ?_⟩
  · simp only [mA_A, mL_A, mP_A, mA_L, mL_L, mP_L, upd_at]; simp; exact h3
  · simp only [mA_A, mL_A, mP_A, mA_L, mL_L, mP_L, upd_at]; simp; exact h4
  · simp only [mA_A, mL_A, mP_A, mA_L, mL_L, mP_L, upd_at]; simp; exact ha
  · rw [mA_A, if_neg (fun z => hk z.2.2.symm)]; exact hv
theorem CF.setL {T : Tk} {i k : Nat} {σ0 σ : Mm} {e : Nat × Nat} {g : Nat → Int64} (h : CF T i σ0 e σ) (hw : anW WRd 0 k = true) : CF T i σ0 e (setL σ 0 0 k g) := by
  obtain ⟨h1, h2, h3, h4, ⟨p, hp, hg, ha⟩, u, hu, hv⟩ := h
  exact ⟨h1.L0 hw, h2, h3, h4, ⟨p, hp, hg, ha⟩, u, hu, hv⟩
theorem s_open {i q : Nat} {σ : Mm} (hq : q < 11) : F_X0_open i (nI q) σ = some (setA (setA σ 1 i 13 (upd (mA σ 1 i 13) q (mA σ 1 i 10 0))) 1 i 14 (upd (mA (setA σ 1 i 13 (upd (mA σ 1 i 13) q (mA σ 1 i 10 0))) 1 i 14) q (mA σ 1 i 10 0))) := by
  have iq : inb (nI q) 11 = true := by grind [gI, gB, gC]
  have e : mA (setA σ 1 i 13 (upd (mA σ 1 i 13) q (mA σ 1 i 10 0))) 1 i 10 0 = mA σ 1 i 10 0 := by rw [mA_A, if_neg (by simp)]
  unfold F_X0_open F_X0_open_20
  rw [if_neg (nI_pos (by omega)), if_neg (show ¬ (11 : Int32) ≤ nI q from nI_ge (b := 11) hq (by omega)), if_pos iq, if_pos iq, nI_clamp (by omega), e]
theorem s_close {i q : Nat} {σ : Mm} (hq : q < 11) : F_X0_close i (nI q) σ = some (setA σ 1 i 14 (upd (mA σ 1 i 14) q (mA σ 1 i 10 0))) := by
  have iq : inb (nI q) 11 = true := by grind [gI, gB, gC]
  unfold F_X0_close
  rw [if_neg (nI_pos (by omega)), if_neg (show ¬ (11 : Int32) ≤ nI q from nI_ge (b := 11) hq (by omega)), if_pos iq, nI_clamp (by omega)]
theorem openF {T : Tk} {i q : Nat} {σ0 σ : Mm} {e : Nat × Nat} (hq : q < 11) (h : CF T i σ0 e σ) : Ok (F_X0_open i (nI q) σ) (CF T i σ0 e) := by
  rw [s_open hq]
  exact Ok_r ((h.set rfl (by decide)).set rfl (by decide))
theorem closeF {T : Tk} {i q : Nat} {σ0 σ : Mm} {e : Nat × Nat} (hq : q < 11) (h : CF T i σ0 e σ) : Ok (F_X0_close i (nI q) σ) (CF T i σ0 e) := by
  rw [s_close hq]
  exact Ok_r (h.set rfl (by decide))
theorem segU.mono {σ τ : Mm} {i u u' p : Nat} {L : List (Int32 × Int32)} (h : segU σ i u p L) (hu : u ≤ u') (h13 : mA τ 1 i 13 p = mA σ 1 i 13 p) (h14 : mA τ 1 i 14 p = mA σ 1 i 14 p) (hr : ∀ j, j < u → mA τ 1 i 11 j = mA σ 1 i 11 j ∧ mA τ 1 i 12 j = mA σ 1 i 12 j) : segU τ i u' p L := by
  obtain ⟨c, h1, h2, h3, h4⟩ := h
  refine ⟨c, h13.trans h1, h14.trans h2, by omega, fun j q hj => ?_⟩
  have := (List.getElem?_eq_some_iff.mp hj).1
  rw [(hr (c + j) (by omega)).1, (hr (c + j) (by omega)).2]
  exact h4 j q hj
theorem sky168F {T : Tk} {i : Nat} {σ0 σ : Mm} {e : Nat × Nat} (hA : AM T i σ0) (h : CF T i σ0 e σ) : Ok (F_X5_tellSky_168 σ) (CF T i σ0 e) := by
  unfold F_X5_tellSky_168 F_X5_tellSky_173
  rw [s_takeF h, bnd_s, (hA.p h.1).1]
  exact Ok_t (hA.p h.1).2 (Ok_r (h.set rfl (by decide)))
theorem sky157F {T : Tk} {i q : Nat} {σ0 σ : Mm} {e : Nat × Nat} (hA : AM T i σ0) (hq : q < 11) (h : CF T i σ0 e σ) : Ok (F_X5_tellSky_157 (nI q) σ) (CF T i σ0 e) := by
  unfold F_X5_tellSky_157
  refine Ok_t (hA.p h.1).2 ?_
  rw [(hA.p h.1).1]
  exact Ok_V (closeF hq h) (fun τ hτ => sky168F hA hτ)
theorem sky140F {T : Tk} {i q : Nat} {σ0 σ : Mm} {e : Nat × Nat} {v : Int32} (hA : AM T i σ0) (hq : q < 11) (h : CF T i σ0 e σ) : Ok (F_X5_tellSky_140 (nI q) v σ) (CF T i σ0 e) := by
  unfold F_X5_tellSky_140 F_X5_tellSky_152
  refine Ok_t (hA.p h.1).2 ?_
  rw [(hA.p h.1).1]
  refine Ok_V (openF hq h) (fun τ hτ => ?_)
  rw [FS8F hA hτ, bnv_s]
  exact sky157F hA hq hτ
theorem sky118F {T : Tk} {i q p : Nat} {σ0 σ : Mm} {e : Nat × Nat} (hA : AM T i σ0) (hq : q < 5) (hp : p ≤ 400) (h : CF T i σ0 e σ) : Ok (F_X5_tellSky_118 (nI p) (nI q) σ) (CF T i σ0 e) := by
  have iq : inb (nI q) 5 = true := by clear hA h; grind [gI, gB, gC]
  have ip : inb (nI (p + 1)) 402 = true := by
    have : p + 1 < 402 := by omega
    clear hA h hp iq; grind [gI, gB, gC]
  unfold F_X5_tellSky_118 F_X5_tellSky_135
  rw [nI_1]
  refine Ok_t ip (Ok_t iq ?_)
  have hL := h.setL (k := 14) (g := vp_updL (mL σ 0 0 14) (nI q).toNatClampNeg (mL σ 0 0 11 (nI (p + 1)).toNatClampNeg)) rfl
  rw [s_takeF hL, bnd_s]
  exact sky140F hA (by omega) hL
/-- from the name on -/
theorem sky118 {T : Tk} {i u p q : Nat} {σ0 σ : Mm} {X : Xt} {B : Option (Nat × Nat)} {sv : Int32} (hA : AM T i σ0) (hp : p + 1 < q) (hu : u ≤ p) (hl : (qS X).length < 5) (h2 : tK T (p + 1) = 2) (hK : CK T i σ0 q σ) (n1 : cNm σ i X) (n2 : cTh T σ i X) (n3 : cDo σ i X) (n4 : cHi T σ i X) (n5 : cSk T σ i u X) (n6 : cRu σ i u X) (hlR : (qR X).length ≤ 6) (n7 : cBl T σ B) (n8 : mA σ 1 i 10 0 = nI u) (n9 : mA σ 1 i 9 (qS X).length = sv) (Xn : List Op → Xt)
    (hX : ∀ L, Xn L = (qT X, qD X, qH X, qS X ++ [(p + 1, sv, L)], qR X, qN X, qL X ++ [(p + 1, -1)], B)) : Ok (F_X5_tellSky_118 (nI p) (nI (qS X).length) σ) (oTl T i σ0 (ebd (t1 T 5 q) (fun q => ebd (xS T 7 q) (fun e => ebd (t1 T 4 e.2) (fun q2 => .ok (Xn e.1, q2)))))) := by
  have hq4 := hK.2.2.2.1
  have hgq := hK.2.2.2.2
  have iq : inb (nI (qS X).length) 5 = true := by
    generalize (qS X).length = z at *
    clear hA hK n1 n2 n3 n4 n5 n6 n7 n8 n9 hX; grind [gI, gB, gC]
  have ip : inb (nI (p + 1)) 402 = true := by
    have : p + 1 < 402 := by omega
    clear hA hK n1 n2 n3 n4 n5 n6 n7 n8 n9 hX iq; grind [gI, gB, gC]
  have hgp : gTk T (p + 1) := gTk_le hgq (by omega)
  unfold F_X5_tellSky_118 F_X5_tellSky_135
  rw [nI_1]
  refine Ok_t ip (Ok_t iq ?_)
  rw [nI_clamp (by omega), nI_clamp (by omega), (hA.t hK.1 (by omega) hgp).2.2.2 h2]
  obtain ⟨I, kk2, kk3, kk4, kk5⟩ := id hK
  have I0 := I.L0 (k := 14) (g := vp_updL (mL σ 0 0 14) (qS X).length (lN (tC T (p + 1)))) rfl
  generalize hw0 : setL σ 0 0 14 (vp_updL (mL σ 0 0 14) (qS X).length (lN (tC T (p + 1)))) = w0 at *
  have F0 : Fr [(0, 14, 999)] σ w0 := by subst hw0; exact Fr_r.LL rfl
  have L0 : ∀ t, mL w0 0 0 14 t = if t = (qS X).length then lN (tC T (p + 1)) else mL σ 0 0 14 t := by
    intro t; subst hw0; rw [mL_L, if_pos ⟨rfl, rfl, rfl⟩]; rfl
  have K0 : CK T i σ0 q w0 := by
    refine ⟨I0, ?_, ?_, kk4, kk5⟩
    · rw [F0.fld (t := 0) (k := 12) (f := 0) 0 rfl]; exact kk2
    · rw [F0.fld (t := 0) (k := 12) (f := 4) 0 rfl]; exact kk3
  have U0 : mA w0 1 i 10 0 = nI u := by rw [F0.row (t := 1) (k := 10) i rfl]; exact n8
  refine s_tk hA K0 ⟨u, by omega, U0⟩ (c := 5) (by omega) (by omega) (fun τ ht K1 f1 => ?_) (fun e τ ht hF => ?_)
  · rw [ht, ebd_k]
    unfold F_X5_tellSky_140 F_X5_tellSky_152
    rw [(hA.p K1.1).1]
    refine Ok_t (hA.p K1.1).2 ?_
    rw [s_open (by omega), bnv_s]
    have U1 : mA τ 1 i 10 0 = nI u := by rw [f1.row (t := 1) (k := 10) i rfl]; exact U0
    rw [U1]
    generalize hw1 : setA (setA τ 1 i 13 (upd (mA τ 1 i 13) (qS X).length (nI u))) 1 i 14 (upd (mA (setA τ 1 i 13 (upd (mA τ 1 i 13) (qS X).length (nI u))) 1 i 14) (qS X).length (nI u)) = w1
    have F1 : Fr [(1, 13, 999), (1, 14, 999)] τ w1 := by subst hw1; exact (Fr_r.A rfl).A rfl
    have R13 : ∀ t, mA w1 1 i 13 t = if t = (qS X).length then nI u else mA τ 1 i 13 t := by
      intro t; subst hw1; simp only [mA_A, mL_A, mP_A, mA_L, mL_L, mP_L, upd_at]; simp
    have R14 : ∀ t, t ≠ (qS X).length → mA w1 1 i 14 t = mA τ 1 i 14 t := by
      intro t ht; subst hw1; simp only [mA_A, mL_A, mP_A, mA_L, mL_L, mP_L, upd_at]; simp [ht]
    have K2 : CK T i σ0 (q + 1) w1 := by
      refine ⟨?_, ?_, ?_, K1.2.2.2.1, K1.2.2.2.2⟩
      · subst hw1; exact (K1.1.A1 rfl).A1 rfl
      · rw [F1.fld (t := 0) (k := 12) (f := 0) 0 rfl]; exact K1.2.1
      · rw [F1.fld (t := 0) (k := 12) (f := 4) 0 rfl]; exact K1.2.2.1
    have X2 : CX T i σ0 u (fun j => mA w1 1 i 11 j) (fun j => mA w1 1 i 12 j) (q + 1) [] w1 :=
      ⟨K2, by rw [F1.row (t := 1) (k := 10) i rfl]; exact U1, fun j _ => ⟨rfl, rfl⟩, fun j z hj => by cases hj⟩
    refine Ok_V ((s_FS8 hA X2 (by show u + 0 ≤ q + 1; omega)).frV (fo_FS 8 Fr_r)) (fun υ hυ => ?_)
    obtain ⟨hυ, f2⟩ := hυ
    have f2 : Fr W_FS w1 υ := f2
    cases hr : xS T 7 (q + 1) with
    | error e =>
      rw [hr] at hυ
      exact sky157F hA (by omega) hυ
    | ok a =>
      obtain ⟨L, q2⟩ := a
      rw [hr] at hυ
      have hυ : CX T i σ0 u _ _ q2 (encE L) υ := hυ
      obtain ⟨z1, z2, z3, z4⟩ := sLn_S 7 (q + 1) L q2 K1.2.2.2.1 K1.2.2.2.2 hr
      have hlL : (encE L).length = L.length := List.length_map ..
      rw [ebd_k]
      dsimp only
      unfold F_X5_tellSky_157
      rw [(hA.p hυ.1.1).1]
      refine Ok_t (hA.p hυ.1.1).2 ?_
      rw [s_close (by omega), bnv_s, hυ.2.1]
      obtain ⟨K3, U3, O3, C3⟩ := hυ
      generalize hw2 : setA υ 1 i 14 (upd (mA υ 1 i 14) (qS X).length (nI (u + (encE L).length))) = w2
      have F2 : Fr [(1, 14, 999)] υ w2 := by subst hw2; exact Fr_r.A rfl
      have S14 : ∀ t, mA w2 1 i 14 t = if t = (qS X).length then nI (u + (encE L).length) else mA υ 1 i 14 t := by
        intro t; subst hw2; simp only [mA_A, mL_A, mP_A, mA_L, mL_L, mP_L, upd_at]; simp
      have K4 : CK T i σ0 q2 w2 := by
        refine ⟨?_, ?_, ?_, K3.2.2.2.1, K3.2.2.2.2⟩
        · subst hw2; exact K3.1.A1 rfl
        · rw [F2.fld (t := 0) (k := 12) (f := 0) 0 rfl]; exact K3.2.1
        · rw [F2.fld (t := 0) (k := 12) (f := 4) 0 rfl]; exact K3.2.2.1
      have U4 : mA w2 1 i 10 0 = nI (u + (encE L).length) := by rw [F2.row (t := 1) (k := 10) i rfl]; exact U3
      unfold F_X5_tellSky_168
      refine s_tk hA K4 ⟨_, by omega, U4⟩ (c := 4) (by omega) (by omega) (fun φ ht2 K5 f3 => ?_) (fun e φ ht2 hF => ?_)
      · rw [ht2, ebd_k]
        unfold F_X5_tellSky_173
        rw [(hA.p K5.1).1]
        refine Ok_t (hA.p K5.1).2 (Ok_r ⟨u + (encE L).length, by omega, ?_⟩)
        -- the frames together
        have G : Fr [(0, 14, 999), (0, 12, 0), (0, 12, 1), (0, 12, 4), (1, 13, 999), (1, 14, 999), (1, 10, 0), (1, 11, 999), (1, 12, 999)] σ φ := ((((F0.sub rfl).trans (f1.sub rfl)).trans ((F1.sub rfl).trans (f2.sub rfl))).trans (F2.sub rfl)).trans (f3.sub rfl)
        have GG : Fr [(0, 14, 999), (0, 12, 0), (0, 12, 1), (0, 12, 4), (1, 13, 999), (1, 14, 999), (1, 10, 0), (1, 11, 999), (1, 12, 999), (1, 0, 12)] σ (setA φ 1 i 0 (upd (mA φ 1 i 0) 12 (mA φ 1 i 0 12 + 1))) := (G.sub rfl).A rfl
        have H : Fr [(1, 0, 12)] φ (setA φ 1 i 0 (upd (mA φ 1 i 0) 12 (mA φ 1 i 0 12 + 1))) := Fr_r.A rfl
        have rows : ∀ j, j < u → mA φ 1 i 11 j = mA σ 1 i 11 j ∧ mA φ 1 i 12 j = mA σ 1 i 12 j := by
          intro j hj
          rw [f3.row (t := 1) (k := 11) i rfl, f3.row (t := 1) (k := 12) i rfl, F2.row (t := 1) (k := 11) i rfl, F2.row (t := 1) (k := 12) i rfl, (O3 j hj).1, (O3 j hj).2, F1.row (t := 1) (k := 11) i rfl, F1.row (t := 1) (k := 12) i rfl, f1.row (t := 1) (k := 11) i rfl, f1.row (t := 1) (k := 12) i rfl, F0.row (t := 1) (k := 11) i rfl, F0.row (t := 1) (k := 12) i rfl]
          exact ⟨rfl, rfl⟩
        have r13 : ∀ t, mA φ 1 i 13 t = if t = (qS X).length then nI u else mA σ 1 i 13 t := by
          intro t
          rw [f3.row (t := 1) (k := 13) i rfl, F2.row (t := 1) (k := 13) i rfl, f2.row (t := 1) (k := 13) i rfl, R13 t, f1.row (t := 1) (k := 13) i rfl, F0.row (t := 1) (k := 13) i rfl]
        have r14 : ∀ t, mA φ 1 i 14 t = if t = (qS X).length then nI (u + (encE L).length) else mA σ 1 i 14 t := by
          intro t
          rw [f3.row (t := 1) (k := 14) i rfl, S14 t]
          by_cases c : t = (qS X).length
          · rw [if_pos c, if_pos c]
          · rw [if_neg c, if_neg c, f2.row (t := 1) (k := 14) i rfl, R14 t c, f1.row (t := 1) (k := 14) i rfl, F0.row (t := 1) (k := 14) i rfl]
        have rL : ∀ t, mL φ 0 0 14 t = if t = (qS X).length then lN (tC T (p + 1)) else mL σ 0 0 14 t := by
          intro t
          rw [f3.rowL (t := 0) (k := 14) 0 rfl, F2.rowL (t := 0) (k := 14) 0 rfl, f2.rowL (t := 0) (k := 14) 0 rfl, F1.rowL (t := 0) (k := 14) 0 rfl, f1.rowL (t := 0) (k := 14) 0 rfl, L0 t]
        rw [hX]
        refine ⟨⟨K5.1.A1 rfl, ?_, ?_, K5.2.2.2.1, K5.2.2.2.2⟩, ?_, n2.fr GG rfl, n3.fr GG rfl, n4.fr GG rfl, ?_, ?_, n7.fr GG rfl, ?_⟩
        · rw [H.fld (t := 0) (k := 12) (f := 0) 0 rfl]; exact K5.2.1
        · rw [H.fld (t := 0) (k := 12) (f := 4) 0 rfl]; exact K5.2.2.1
        · have z : mA φ 1 i 0 12 = nI (qS X).length := by
            rw [G.row (t := 1) (k := 0) i rfl]; exact n1.2.2.2.2.1
          refine ⟨?_, ?_, ?_, ?_, ?_, ?_⟩
          · rw [GG.fld (t := 1) (k := 0) (f := 0) i rfl]; exact n1.1
          · rw [GG.fld (t := 1) (k := 0) (f := 1) i rfl]; exact n1.2.1
          · rw [GG.fld (t := 1) (k := 0) (f := 6) i rfl]; exact n1.2.2.1
          · rw [GG.fld (t := 1) (k := 0) (f := 8) i rfl]; exact n1.2.2.2.1
          · rw [mA_A, if_pos ⟨rfl, rfl, rfl⟩, upd_at, if_pos rfl, z, nI_1]
            show _ = nI (qS X ++ [_]).length
            rw [List.length_append]; rfl
          · rw [GG.fld (t := 1) (k := 0) (f := 14) i rfl]; exact n1.2.2.2.2.2
        · intro t s hs
          rw [H.row (t := 1) (k := 9) i rfl, H.rowL (t := 0) (k := 14) 0 rfl, G.row (t := 1) (k := 9) i rfl, rL t]
          rcases getA (show (qS X ++ [(p + 1, sv, L)])[t]? = some s from hs) with hj | ⟨rfl, rfl⟩
          · have hlt := (List.getElem?_eq_some_iff.mp hj).1
            obtain ⟨o1, o2, o3⟩ := n5 t s hj
            have ne : t ≠ (qS X).length := by omega
            rw [if_neg ne]
            refine ⟨o1, o2, o3.mono (by omega) ?_ ?_ (fun j hj => ?_)⟩
            · rw [H.row (t := 1) (k := 13) i rfl, r13 t, if_neg ne]
            · rw [H.row (t := 1) (k := 14) i rfl, r14 t, if_neg ne]
            · rw [H.row (t := 1) (k := 11) i rfl, H.row (t := 1) (k := 12) i rfl]; exact rows j hj
          · rw [if_pos rfl]
            refine ⟨n9, rfl, u, ?_, ?_, Nat.le_refl _, fun j z hz => ?_⟩
            · rw [H.row (t := 1) (k := 13) i rfl, r13, if_pos rfl]
            · rw [H.row (t := 1) (k := 14) i rfl, r14, if_pos rfl]
            · rw [H.row (t := 1) (k := 11) i rfl, H.row (t := 1) (k := 12) i rfl, f3.row (t := 1) (k := 11) i rfl, f3.row (t := 1) (k := 12) i rfl, F2.row (t := 1) (k := 11) i rfl, F2.row (t := 1) (k := 12) i rfl]
              exact C3 j z hz
        · intro r c hc
          have hlt := (List.getElem?_eq_some_iff.mp hc).1
          have ne : 5 + r ≠ (qS X).length := by omega
          refine (n6 r c hc).mono (by omega) ?_ ?_ (fun j hj => ?_)
          · rw [H.row (t := 1) (k := 13) i rfl, r13, if_neg ne]
          · rw [H.row (t := 1) (k := 14) i rfl, r14, if_neg ne]
          · rw [H.row (t := 1) (k := 11) i rfl, H.row (t := 1) (k := 12) i rfl]; exact rows j hj
        · rw [H.row (t := 1) (k := 10) i rfl, f3.row (t := 1) (k := 10) i rfl]; exact U4
      · rw [ht2]
        unfold F_X5_tellSky_173
        rw [(hA.p hF.1).1]
        exact Ok_t (hA.p hF.1).2 (Ok_r (hF.set rfl (by decide)))
  · rw [ht]
    exact sky140F hA (by omega) hF
