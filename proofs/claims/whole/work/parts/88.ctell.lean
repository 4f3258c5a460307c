/-! the class's TELLS: hills, near -/
def chn : List Nat → (Mm → Option Mm) → Int32 → Mm → Option Mm
  | [], k, v, τ => if v = 0 then some τ else k τ
  | c :: cs, k, v, τ => if v = 0 then some τ else bnd (F_X5_take (nI c) τ) (chn cs k)
theorem tks_ok {T : Tk} : ∀ cs p q, tks T cs p = .ok q → q = p + cs.length ∧ ∀ j c, cs[j]? = some c → tK T (p + j) = c := by
  intro cs
  induction cs with
  | nil => intro p q h; cases h; exact ⟨rfl, fun j c hj => by cases hj⟩
  | cons c cs ih =>
    intro p q h
    obtain ⟨p1, e1, h⟩ := ebd_ok h
    obtain ⟨k1, -, rfl⟩ := t1_ok e1
    obtain ⟨h1, h2⟩ := ih (p + 1) q h
    refine ⟨by rw [h1, List.length_cons]; omega, fun j d hj => ?_⟩
    cases j with
    | zero => cases hj; exact k1
    | succ j =>
      have := h2 j d hj
      rw [show p + (j + 1) = p + 1 + j by omega]; exact this
theorem s_chn {T : Tk} {i : Nat} {σ0 : Mm} {k : Mm → Option Mm} {Q : Mm → Prop} (hA : AM T i σ0) : ∀ (cs : List Nat) (p : Nat) (σ : Mm), CK T i σ0 p σ → CU i σ → (∀ c ∈ cs, 2 ≤ c ∧ c ≤ 40) → (∀ τ, tks T cs p = .ok (p + cs.length) → (∀ j c, cs[j]? = some c → tK T (p + j) = c) → CK T i σ0 (p + cs.length) τ → Fr W_X5_take σ τ → Ok (k τ) Q) → (∀ e τ, tks T cs p = .error e → CF T i σ0 e τ → Q τ) → Ok (chn cs k 1 σ) Q := by
  intro cs
  induction cs with
  | nil => intro p σ h _ _ h1 _; exact Ok_f ne10 (h1 σ rfl (fun j c hj => by cases hj) h Fr_r)
  | cons c cs ih =>
    intro p σ h hu hc h1 h0
    have hcc := hc c List.mem_cons_self
    refine Ok_f ne10 (s_tk hA h hu hcc.2 hcc.1 (fun τ ht hK fr => ?_) (fun e τ ht hF => ?_))
    · have e1 : tks T (c :: cs) p = tks T cs (p + 1) := by show ebd (t1 T c p) _ = _; rw [ht]; rfl
      have hu2 : CU i τ := by
        obtain ⟨u, hu1, hu2⟩ := hu
        exact ⟨u, hu1, by rw [fr.row (t := 1) (k := 10) i rfl]; exact hu2⟩
      refine ih (p + 1) τ hK hu2 (fun d hd => hc d (List.mem_cons_of_mem _ hd)) (fun υ h2 h3 h4 h5 => h1 υ ?_ ?_ ?_ (fr.trans h5)) (fun e υ h2 => h0 e υ (e1.trans h2))
      · rw [e1, h2, List.length_cons]; exact congrArg Except.ok (by omega)
      · intro j d hj
        cases j with
        | zero => cases hj; exact (t1_ok ht).1
        | succ j => have := h3 j d hj; rw [show p + (j + 1) = p + 1 + j by omega]; exact this
      · rw [List.length_cons, show p + (cs.length + 1) = p + 1 + cs.length by omega]; exact h4
    · have e1 : tks T (c :: cs) p = .error e := by show ebd (t1 T c p) _ = _; rw [ht]; rfl
      show Ok (chn cs k 0 τ) Q
      cases cs with
      | nil => exact Ok_t rfl (Ok_r (h0 e τ e1 hF))
      | cons d cs => exact Ok_t rfl (Ok_r (h0 e τ e1 hF))
theorem CU_of {T : Tk} {i u p : Nat} {X : Xt} {σ : Mm} (h : CR T i u X σ) (hu : u ≤ p) (hp : p ≤ 400) : CU i σ := ⟨u, by omega, h.2.2.2.2.2.2.2⟩
theorem s_hill {T : Tk} {i p : Nat} {σ0 σ : Mm} {X : Xt} (hA : AM T i σ0) (h : CRX T i σ0 X p σ) (hl : (qH X).length ≤ 12) : Ok (F_X5_tellHill σ) (oTl T i σ0 (tHi T X p)) := by
  obtain ⟨u, hu, hK, hR⟩ := h
  have hp4 := hK.2.2.2.1
  have hcu := CU_of hR hu hp4
  unfold F_X5_tellHill tHi
  rw [(hA.p hK.1).1]
  refine Ok_t (hA.p hK.1).2 ?_
  rw [hR.1.2.2.2.1, hK.2.2.1]
  refine s_room (m := 12) hA hK hcu (by omega) (by omega) (fun c => ?_) (fun τ c hF => ?_)
  · rw [if_neg c]
    refine s_chn (k := fun τ => bnv (F_X5_blameAbove 359 (nI p + 1) τ) (fun τ => F_X5_tellHill_73 (nI p) τ)) hA [19, 3, 3, 3, 4] p σ hK hcu (by decide) (fun τ ht hk hK1 f => ?_) (fun e τ ht hF => ?_)
    · rw [ht, ebd_k]
      have hp5 : p + 5 ≤ 400 := hK1.2.2.2.1
      have hg5 : gTk T (p + 5) := hK1.2.2.2.2
      have k1 : tK T (p + 1) = 3 := hk 1 3 rfl
      have k2 : tK T (p + 2) = 3 := hk 2 3 rfl
      have k3 : tK T (p + 3) = 3 := hk 3 3 rfl
      have hR1 := hR.fr f rfl
      have e1 : nI p + 1 = nI (p + 1) := nI_1 p
      have e2 : nI p + 2 = nI (p + 2) := nI_add p 2
      have e3 : nI p + 3 = nI (p + 3) := nI_add p 3
      show Ok (bnv (F_X5_blameAbove 359 (nI p + 1) τ) (fun τ => F_X5_tellHill_73 (nI p) τ)) (CRX T i σ0 (addH T X p) (p + 5))
      rw [e1]
      refine Ok_V ((s_above (m := 359) hA hK1 hR1.2.2.2.2.2.2.1 (by omega) (gTk_le hg5 (by omega)) k1 (by omega)).frV fr_X5_blameAbove) (fun τ1 hτ1 => ?_)
      obtain ⟨⟨hK2, hB2⟩, f1⟩ := hτ1
      unfold F_X5_tellHill_73
      rw [e2]
      refine Ok_V ((s_above (m := 359) hA hK2 hB2 (by omega) (gTk_le hg5 (by omega)) k2 (by omega)).frV fr_X5_blameAbove) (fun τ2 hτ2 => ?_)
      obtain ⟨⟨hK3, hB3⟩, f2⟩ := hτ2
      unfold F_X5_tellHill_83
      rw [e3]
      refine Ok_V ((s_above (m := 20) hA hK3 hB3 (by omega) (gTk_le hg5 (by omega)) k3 (by omega)).frV fr_X5_blameAbove) (fun τ3 hτ3 => ?_)
      obtain ⟨⟨hK4, hB4⟩, f3⟩ := hτ3
      have F := (f1.trans f2).trans f3
      have F : Fr [(0, 12, 5), (0, 12, 6)] τ τ3 := F
      obtain ⟨n1, n2, n3, n4, n5, n6, -, n8⟩ := hR1
      have m1 := n1.fr F rfl
      have lh : (qH X).length < 12 := by omega
      unfold F_X5_tellHill_92 F_X5_tellHill_120 F_X5_tellHill_140 F_X5_tellHill_160
      have ip : ∀ j, j ≤ 3 → inb (nI (p + j)) 402 = true := by
        intro j hj
        have : p + j < 402 := by omega
        generalize p + j = z at *
        clear hA hR hK n1 n2 n3 n4 n5 n6 n8 m1 hK1 hK2 hK3 hK4 hB2 hB3 hB4 hcu; grind [gI, gB, gC]
      have il : inb (nI (qH X).length) 12 = true := by
        generalize (qH X).length = z at *
        clear hA hR hK n1 n2 n3 n4 n5 n6 n8 m1 hK1 hK2 hK3 hK4 hB2 hB3 hB4 hcu ip; grind [gI, gB, gC]
      have cl : (nI (qH X).length).toNatClampNeg = (qH X).length := nI_clamp (by omega)
      have v : ∀ j, 1 ≤ j → j ≤ 3 → mA τ3 0 0 10 (p + j) = nI (tV T (p + j)) := by
        intro j j1 j2
        have : tK T (p + j) = 3 := by
          have : j = 1 ∨ j = 2 ∨ j = 3 := by omega
          rcases this with rfl | rfl | rfl
          · exact k1
          · exact k2
          · exact k3
        exact (hA.t hK4.1 (by omega) (gTk_le hg5 (by omega))).2.2.1 this
      rw [e1, e2, e3, nI_clamp (show p + 1 < 2 ^ 31 by omega), nI_clamp (show p + 2 < 2 ^ 31 by omega), nI_clamp (show p + 3 < 2 ^ 31 by omega), (hA.p hK4.1).1, m1.2.2.2.1, cl, v 1 (by omega) (by omega)]
      refine Ok_t (hA.p hK4.1).2 (Ok_t (ip 1 (by omega)) (Ok_t il ?_))
      have I1 := hK4.1.A1 (k := 6) (j := (qH X).length) (v := nI (tV T (p + 1))) rfl
      generalize hw1 : setA τ3 1 i 6 (upd (mA τ3 1 i 6) (qH X).length (nI (tV T (p + 1)))) = w1 at *
      have q1 : mA w1 0 0 10 = mA τ3 0 0 10 := by subst hw1; rw [mA_R, if_neg (by simp)]
      rw [q1, v 2 (by omega) (by omega)]
      refine Ok_t (hA.p I1).2 (Ok_t (ip 2 (by omega)) (Ok_t il ?_))
      have I2 := I1.A1 (k := 7) (j := (qH X).length) (v := nI (tV T (p + 2))) rfl
      generalize hw2 : setA w1 1 i 7 (upd (mA w1 1 i 7) (qH X).length (nI (tV T (p + 2)))) = w2 at *
      have q2 : mA w2 0 0 10 = mA τ3 0 0 10 := by subst hw2; rw [mA_R, if_neg (by simp), q1]
      rw [q2, v 3 (by omega) (by omega)]
      refine Ok_t (hA.p I2).2 (Ok_t (ip 3 (by omega)) (Ok_t il ?_))
      have I3 := I2.A1 (k := 8) (j := (qH X).length) (v := nI (tV T (p + 3))) rfl
      generalize hw3 : setA w2 1 i 8 (upd (mA w2 1 i 8) (qH X).length (nI (tV T (p + 3)))) = w3 at *
      refine Ok_t (hA.p I3).2 (Ok_r ⟨u, by omega, ?_⟩)
      have G : Fr [(1, 6, 999), (1, 7, 999), (1, 8, 999), (1, 0, 8)] τ3 (setA w3 1 i 0 (upd (mA w3 1 i 0) 8 (mA w3 1 i 0 8 + 1))) := by
        subst hw3 hw2 hw1
        exact (((Fr_r.A rfl).A rfl).A rfl).A rfl
      obtain ⟨-, kk2, kk3, kk4, kk5⟩ := hK4
      have FF : Fr [(0, 12, 5), (0, 12, 6), (1, 6, 999), (1, 7, 999), (1, 8, 999), (1, 0, 8)] τ (setA w3 1 i 0 (upd (mA w3 1 i 0) 8 (mA w3 1 i 0 8 + 1))) := (F.sub rfl).trans (G.sub rfl)
      refine ⟨⟨I3.A1 rfl, ?_, ?_, kk4, kk5⟩, ?_, n2.fr FF rfl, n3.fr FF rfl, ?_, n5.fr FF rfl, n6.fr FF rfl, hB4.fr G rfl, ?_⟩
      · rw [G.fld (t := 0) (k := 12) (f := 0) 0 rfl]; exact kk2
      · rw [G.fld (t := 0) (k := 12) (f := 4) 0 rfl]; exact kk3
      · have z : mA w3 1 i 0 8 = nI (qH X).length := by
          subst hw3 hw2 hw1
          simp only [mA_A, mL_A, mP_A, mA_L, mL_L, mP_L, upd_at]; simp; exact m1.2.2.2.1
        refine ⟨?_, ?_, ?_, ?_, ?_, ?_⟩
        · rw [FF.fld (t := 1) (k := 0) (f := 0) i rfl]; exact n1.1
        · rw [FF.fld (t := 1) (k := 0) (f := 1) i rfl]; exact n1.2.1
        · rw [FF.fld (t := 1) (k := 0) (f := 6) i rfl]; exact n1.2.2.1
        · rw [mA_A, if_pos ⟨rfl, rfl, rfl⟩, upd_at, if_pos rfl, z, nI_1]
          show _ = nI (qH X ++ [p]).length
          rw [List.length_append]; rfl
        · rw [FF.fld (t := 1) (k := 0) (f := 12) i rfl]; exact n1.2.2.2.2.1
        · rw [FF.fld (t := 1) (k := 0) (f := 14) i rfl]; exact n1.2.2.2.2.2
      · have old := n4.fr F rfl
        intro t x ht
        rcases getA (show (qH X ++ [p])[t]? = some x from ht) with hj | ⟨rfl, rfl⟩
        · have hlt := (List.getElem?_eq_some_iff.mp hj).1
          obtain ⟨o1, o2, o3⟩ := old t x hj
          have ne : t ≠ (qH X).length := by omega
          subst hw3 hw2 hw1
          refine ⟨?_, ?_, ?_⟩
          · simp only [mA_A, mL_A, mP_A, mA_L, mL_L, mP_L, upd_at]; simp [ne]; exact o1
          · simp only [mA_A, mL_A, mP_A, mA_L, mL_L, mP_L, upd_at]; simp [ne]; exact o2
          · simp only [mA_A, mL_A, mP_A, mA_L, mL_L, mP_L, upd_at]; simp [ne]; exact o3
        · subst hw3 hw2 hw1
          refine ⟨?_, ?_, ?_⟩
          · simp only [mA_A, mL_A, mP_A, mA_L, mL_L, mP_L, upd_at]; simp
          · simp only [mA_A, mL_A, mP_A, mA_L, mL_L, mP_L, upd_at]; simp
          · simp only [mA_A, mL_A, mP_A, mA_L, mL_L, mP_L, upd_at]; simp
      · rw [FF.row (t := 1) (k := 10) i rfl]; exact n8
    · rw [ht]; exact hF
  · rw [if_pos c]
    exact Ok_t rfl (Ok_r hF)
theorem s_near {T : Tk} {i p : Nat} {σ0 σ : Mm} {X : Xt} (hA : AM T i σ0) (h : CRX T i σ0 X p σ) : Ok (F_X5_tellNear σ) (oTl T i σ0 (tNe T X p)) := by
  obtain ⟨u, hu, hK, hR⟩ := h
  have hp4 := hK.2.2.2.1
  have hcu := CU_of hR hu hp4
  unfold F_X5_tellNear tNe
  rw [hK.2.2.1]
  have e0 : bnd (F_X5_take 22 σ) (fun v τ => F_X5_tellNear_11 (nI p) v τ) = chn [22, 3, 4] (fun τ => bnv (F_X5_blameAbove 20 (nI p + 1) τ) (fun τ => F_X5_tellNear_39 (nI p) τ)) 1 σ := rfl
  rw [e0]
  refine s_chn hA [22, 3, 4] p σ hK hcu (by decide) (fun τ ht hk hK1 f => ?_) (fun e τ ht hF => ?_)
  · rw [ht, ebd_k]
    have hp5 : p + 3 ≤ 400 := hK1.2.2.2.1
    have hg5 : gTk T (p + 3) := hK1.2.2.2.2
    have k1 : tK T (p + 1) = 3 := hk 1 3 rfl
    have hR1 := hR.fr f rfl
    have e1 : nI p + 1 = nI (p + 1) := nI_1 p
    show Ok _ (CRX T i σ0 (addN T X p) (p + 3))
    rw [e1]
    refine Ok_V ((s_above (m := 20) hA hK1 hR1.2.2.2.2.2.2.1 (by omega) (gTk_le hg5 (by omega)) k1 (by omega)).frV fr_X5_blameAbove) (fun τ1 hτ1 => ?_)
    obtain ⟨⟨hK2, hB2⟩, F⟩ := hτ1
    have F : Fr [(0, 12, 5), (0, 12, 6)] τ τ1 := F
    obtain ⟨n1, n2, n3, n4, n5, n6, -, n8⟩ := hR1
    unfold F_X5_tellNear_39
    have ip : inb (nI (p + 1)) 402 = true := by
      clear hA hR hK n1 n2 n3 n4 n5 n6 n8 hK1 hK2 hB2 hcu; grind [gI, gB, gC]
    rw [e1, (hA.p hK2.1).1, nI_clamp (by omega), (hA.t hK2.1 (by omega) (gTk_le hg5 (by omega))).2.2.1 k1]
    refine Ok_t (hA.p hK2.1).2 (Ok_t ip (Ok_r ⟨u, by omega, ?_⟩))
    have G : Fr [(1, 0, 0)] τ1 (setA τ1 1 i 0 (upd (mA τ1 1 i 0) 0 (nI (tV T (p + 1))))) := Fr_r.A rfl
    obtain ⟨I, kk2, kk3, kk4, kk5⟩ := hK2
    have FF : Fr [(0, 12, 5), (0, 12, 6), (1, 0, 0)] τ (setA τ1 1 i 0 (upd (mA τ1 1 i 0) 0 (nI (tV T (p + 1))))) := (F.sub rfl).trans (G.sub rfl)
    refine ⟨⟨I.A1 rfl, ?_, ?_, kk4, kk5⟩, ?_, n2.fr FF rfl, n3.fr FF rfl, n4.fr FF rfl, n5.fr FF rfl, n6.fr FF rfl, hB2.fr G rfl, ?_⟩
    · rw [G.fld (t := 0) (k := 12) (f := 0) 0 rfl]; exact kk2
    · rw [G.fld (t := 0) (k := 12) (f := 4) 0 rfl]; exact kk3
    · refine ⟨?_, ?_, ?_, ?_, ?_, ?_⟩
      · rw [mA_A, if_pos ⟨rfl, rfl, rfl⟩, upd_at, if_pos rfl]; rfl
      · rw [FF.fld (t := 1) (k := 0) (f := 1) i rfl]; exact n1.2.1
      · rw [FF.fld (t := 1) (k := 0) (f := 6) i rfl]; exact n1.2.2.1
      · rw [FF.fld (t := 1) (k := 0) (f := 8) i rfl]; exact n1.2.2.2.1
      · rw [FF.fld (t := 1) (k := 0) (f := 12) i rfl]; exact n1.2.2.2.2.1
      · rw [FF.fld (t := 1) (k := 0) (f := 14) i rfl]; exact n1.2.2.2.2.2
    · rw [FF.row (t := 1) (k := 10) i rfl]; exact n8
  · rw [ht]; exact hF
