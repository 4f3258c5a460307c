/-! the class's TELLS: things, doors -/
theorem drop_at {α : Type} {L : List α} {t : Nat} {x : α} (h : L[t]? = some x) : L.drop t = x :: L.drop (t + 1) := by
  obtain ⟨ht, e⟩ := List.getElem?_eq_some_iff.mp h
  rw [List.drop_eq_getElem_cons ht, e]
theorem fC_none {T : Tk} {y : Nat} : ∀ (L : List Nat) (s : Nat), s + L.length < 1000 → (fC T L s y = -1 ↔ L.any (fun x => decide (tC T (x + 1) = tC T y)) = false) := by
  intro L
  induction L with
  | nil => intro s _; exact ⟨fun _ => rfl, fun _ => rfl⟩
  | cons x L ih =>
    intro s hs
    rw [List.length_cons] at hs
    show (if tC T (x + 1) = tC T y then nI s else fC T L (s + 1) y) = -1 ↔ (decide (tC T (x + 1) = tC T y) || L.any _) = false
    by_cases c : tC T (x + 1) = tC T y
    · rw [if_pos c, decide_eq_true c, Bool.true_or]
      have : ¬ nI s = -1 := by intro z; have h2 := nI_pos' (n := s) (by omega); rw [z] at h2; exact absurd h2 (by decide)
      exact ⟨fun z => absurd z this, fun z => by cases z⟩
    · rw [if_neg c, decide_eq_false c, Bool.false_or]
      exact ih (s + 1) (by omega)
theorem named_2 {T : Tk} {i y : Nat} {X : Xt} {σ : Mm} (hm : mP σ 2 = i) (ho : okP σ = true) (hN : cNm σ i X) (hT : cTh T σ i X) (hw : TW T) (hl : (qT X).length ≤ 14) : ∀ (n t : Nat), 15 - t < n → t ≤ (qT X).length → F_X5_thingNamed_2 n (lN (tC T y)) (nI t) σ = some (fC T ((qT X).drop t) t y, σ) := by
  have hcl : ∀ z, tC T z < 2 ^ 63 := fun z => Nat.lt_trans (hw.2.2.2.2.2 z).1 (by decide)
  intro n
  induction n with
  | zero => intro t h; omega
  | succ n ih =>
    intro t hn ht
    change B_X5_thingNamed_2 (F_X5_thingNamed_2 n) _ _ _ = _
    unfold B_X5_thingNamed_2
    rw [if_pos ho, hm, hN.2.1]
    by_cases c : (qT X).length ≤ t
    · rw [if_pos (nI_le c (by omega)), List.drop_eq_nil_of_le c]; rfl
    have hx : (qT X)[t]? = some (qT X)[t] := List.getElem?_eq_getElem (by omega)
    generalize (qT X)[t] = x at hx
    have it : inb (nI t) 14 = true := by
      have : t < 14 := by omega
      clear ih hN hT hw hcl hx; grind [gI, gB, gC]
    rw [if_neg (nI_ge (by omega) (by omega)), if_pos it, nI_clamp (by omega), (hT t x hx).2.2.2.2, drop_at hx]
    show _ = some (if tC T (x + 1) = tC T y then nI t else fC T ((qT X).drop (t + 1)) (t + 1) y, σ)
    by_cases c2 : tC T (x + 1) = tC T y
    · rw [if_pos ((lg_cmp_eq _ _).mpr (by rw [c2])), if_pos c2]
    · rw [if_neg (fun z => c2 ((pk_lEQ (hcl _) (hcl _)).mp ((lg_cmp_eq _ _).mp z))), if_neg c2, nI_1]
      exact ih (t + 1) (by omega) (by omega)
theorem s_named {T : Tk} {i y : Nat} {X : Xt} {σ : Mm} (hm : mP σ 2 = i) (ho : okP σ = true) (hN : cNm σ i X) (hT : cTh T σ i X) (hw : TW T) (hl : (qT X).length ≤ 14) : F_X5_thingNamed (lN (tC T y)) σ = some (fC T (qT X) 0 y, σ) :=
  named_2 hm ho hN hT hw hl FU 0 (by show _ < 1000000; omega) (Nat.zero_le _)
def nmC (T : Tk) (X : Xt) (y : Nat) : Bool := (qT X).any (fun x => decide (tC T (x + 1) = tC T y)) || (qS X).any (fun s => decide (tC T s.1 = tC T y))
theorem twice_25 {T : Tk} {i p y : Nat} {X : Xt} {σ0 σ : Mm} {B : Option (Nat × Nat)} (hA : AM T i σ0) (hK : CK T i σ0 p σ) (hB : cBl T σ B) (hN : cNm σ i X) (hS : ∀ t s, (qS X)[t]? = some s → mL σ 0 0 14 t = lN (tC T s.1)) (hl : (qS X).length ≤ 5) (hy : y ≤ 400) (hg : gTk T y) (h2 : tK T y = 2) : ∀ (n t : Nat) (f : Bool), 6 - t < n → t ≤ (qS X).length → Ok (F_X5_blameIfNamed_25 n (nI y) (if f = true then 1 else 0) (nI t) σ) (fun τ => CK T i σ0 p τ ∧ cBl T τ (bla B ((f || ((qS X).drop t).any (fun s => decide (tC T s.1 = tC T y))) = true) 3 y)) := by
  have hcl : ∀ z, tC T z < 2 ^ 63 := fun z => Nat.lt_trans (hA.1.2.2.2.2.2 z).1 (by decide)
  have iy : inb (nI y) 402 = true := by clear hA hK hB hN hS hg h2 hcl; grind [gI, gB, gC]
  intro n
  induction n with
  | zero => intro t f h; omega
  | succ n ih =>
    intro t f hn ht
    change Ok (B_X5_blameIfNamed_25 (F_X5_blameIfNamed_25 n) _ _ _ _) _
    unfold B_X5_blameIfNamed_25
    rw [(hA.p hK.1).1, hN.2.2.2.2.1]
    refine Ok_t (hA.p hK.1).2 ?_
    by_cases c : (qS X).length ≤ t
    · refine Ok_t (nI_le c (by omega)) ?_
      rw [List.drop_eq_nil_of_le c]
      cases f with
      | false =>
        have e : bla B ((false || ([] : List (Nat × Int32 × List Op)).any (fun s => decide (tC T s.1 = tC T y))) = true) 3 y = B := if_neg (show ¬ false = true by decide)
        rw [e]
        exact Ok_t rfl (Ok_r ⟨hK, hB⟩)
      | true =>
        have e : bla B ((true || ([] : List (Nat × Int32 × List Op)).any (fun s => decide (tC T s.1 = tC T y))) = true) 3 y = bla B True 3 y := (if_pos rfl).trans (if_pos trivial).symm
        rw [e]
        exact Ok_f ne10 (Ok_V (s_blame hA hK hB (c := 3) ⟨by omega, by omega⟩ hy hg) (fun τ hτ => Ok_r hτ))
    have hx : (qS X)[t]? = some (qS X)[t] := List.getElem?_eq_getElem (by omega)
    generalize (qS X)[t] = s at hx
    have it : inb (nI t) 5 = true := by
      have : t < 5 := by omega
      clear ih hA hK hB hN hS hg h2 hcl hx iy; grind [gI, gB, gC]
    refine Ok_f (nI_ge (by omega) (by omega)) ?_
    rw [drop_at hx]
    unfold F_X5_blameIfNamed_59 F_X5_blameIfNamed_64
    rw [nI_1]
    have hany : (s :: (qS X).drop (t + 1)).any (fun s => decide (tC T s.1 = tC T y)) = (decide (tC T s.1 = tC T y) || ((qS X).drop (t + 1)).any (fun s => decide (tC T s.1 = tC T y))) := rfl
    rw [hany]
    cases f with
    | true =>
      refine Ok_f ne10 ?_
      have := ih (t + 1) true (by omega) (by omega)
      rw [Bool.true_or] at this ⊢
      exact this
    | false =>
      rw [nI_clamp (by omega), nI_clamp (by omega), hS t s hx, (hA.t hK.1 hy hg).2.2.2 h2]
      refine Ok_t rfl (Ok_t it (Ok_t iy ?_))
      rw [Bool.false_or]
      by_cases c2 : tC T s.1 = tC T y
      · have := ih (t + 1) true (by omega) (by omega)
        rw [decide_eq_true c2]
        exact Ok_t ((lg_cmp_eq _ _).mpr (by rw [c2])) this
      · have := ih (t + 1) false (by omega) (by omega)
        rw [decide_eq_false c2]
        exact Ok_f (fun z => c2 ((pk_lEQ (hcl _) (hcl _)).mp ((lg_cmp_eq _ _).mp z))) this
theorem s_twice {T : Tk} {i p y u : Nat} {X : Xt} {σ0 σ : Mm} {B : Option (Nat × Nat)} (hA : AM T i σ0) (hK : CK T i σ0 p σ) (hB : cBl T σ B) (hN : cNm σ i X) (hT : cTh T σ i X) (hS : cSk T σ i u X) (hlT : (qT X).length ≤ 14) (hl : (qS X).length ≤ 5) (hy : y ≤ 400) (hg : gTk T y) (h2 : tK T y = 2) : Ok (F_X5_blameIfNamed (nI y) σ) (fun τ => CK T i σ0 p τ ∧ cBl T τ (bla B (nmC T X y = true) 3 y)) := by
  have iy : inb (nI y) 402 = true := by clear hA hK hB hN hT hS hg h2; grind [gI, gB, gC]
  unfold F_X5_blameIfNamed
  rw [nI_clamp (by omega), (hA.t hK.1 hy hg).2.2.2 h2, s_named (hA.p hK.1).1 (hA.p hK.1).2 hN hT hA.1 hlT, bnd_s]
  refine Ok_t iy ?_
  unfold F_X5_blameIfNamed_13 F_X5_blameIfNamed_22
  have hn := fC_none (T := T) (y := y) (qT X) 0 (by omega)
  have key := fun f => twice_25 hA hK hB hN (fun t s hs => (hS t s hs).2.1) hl hy hg h2 FU 0 f (by show _ < 1000000; omega) (Nat.zero_le _)
  unfold nmC
  by_cases c : fC T (qT X) 0 y = -1
  · rw [hn.mp c]
    exact Ok_t c (key false)
  · have : (qT X).any (fun x => decide (tC T (x + 1) = tC T y)) = true := by
      cases h : (qT X).any (fun x => decide (tC T (x + 1) = tC T y)) with
      | true => rfl
      | false => exact absurd (hn.mpr h) c
    rw [this]
    exact Ok_f c (key true)
theorem taken_2 {T : Tk} {i : Nat} {X : Xt} {σ : Mm} {a c : Nat} (hN : cNm σ i X) (hT : cTh T σ i X) (hw : TW T) (hl : (qT X).length ≤ 14) (ha : a ≤ 9999) (hc : c ≤ 9999) : ∀ (n t : Nat), 15 - t < n → t ≤ (qT X).length → F_X9_isTaken_2 n i (nI a) (nI c) (nI t) σ = some (if ((qT X).drop t).any (fun x => decide (tV T (x + 2) = a ∧ tV T (x + 3) = c)) = true then 1 else 0, σ) := by
  intro n
  induction n with
  | zero => intro t h; omega
  | succ n ih =>
    intro t hn ht
    change B_X9_isTaken_2 (F_X9_isTaken_2 n) _ _ _ _ _ = _
    unfold B_X9_isTaken_2
    rw [hN.2.1]
    by_cases c0' : (qT X).length ≤ t
    · rw [if_pos (nI_le c0' (by omega)), List.drop_eq_nil_of_le c0']; rfl
    have hx : (qT X)[t]? = some (qT X)[t] := List.getElem?_eq_getElem (by omega)
    generalize (qT X)[t] = x at hx
    have it : inb (nI t) 14 = true := by
      have : t < 14 := by omega
      clear ih hN hT hw hx; grind [gI, gB, gC]
    have v2 := hw.2.2.2.1 (x + 2)
    have v3 := hw.2.2.2.1 (x + 3)
    rw [if_neg (nI_ge (by omega) (by omega)), if_pos it, if_pos it, nI_clamp (by omega), (hT t x hx).1, (hT t x hx).2.1, drop_at hx]
    unfold F_X9_isTaken_32
    rw [nI_1, ih (t + 1) (by omega) (by omega)]
    show _ = some (if (decide (tV T (x + 2) = a ∧ tV T (x + 3) = c) || ((qT X).drop (t + 1)).any _) = true then 1 else 0, σ)
    by_cases c1 : tV T (x + 2) = a
    · rw [if_pos (by rw [c1])]
      by_cases c2 : tV T (x + 3) = c
      · rw [if_pos (by rw [c2]), decide_eq_true ⟨c1, c2⟩, Bool.true_or, if_pos rfl]
      · rw [if_neg (fun z => c2 ((nI_eq (by omega) (by omega)).mp z)), decide_eq_false (fun z => c2 z.2), Bool.false_or]
    · rw [if_neg (fun z => c1 ((nI_eq (by omega) (by omega)).mp z)), decide_eq_false (fun z => c1 z.1), Bool.false_or]
theorem s_taken {T : Tk} {i p : Nat} {X : Xt} {σ : Mm} (hN : cNm σ i X) (hT : cTh T σ i X) (hw : TW T) (hl : (qT X).length ≤ 14) : F_X9_isTaken i (nI (tV T (p + 2))) (nI (tV T (p + 3))) σ = some (if tkn T X p = true then 1 else 0, σ) :=
  taken_2 hN hT hw hl (hw.2.2.2.1 _) (hw.2.2.2.1 _) FU 0 (by show _ < 1000000; omega) (Nat.zero_le _)
theorem s_thing {T : Tk} {i p : Nat} {σ0 σ : Mm} {X : Xt} (hA : AM T i σ0) (h : CRX T i σ0 X p σ) (hl : (qT X).length ≤ 14) (hlS : (qS X).length ≤ 5) (hnm : ∀ y, nmd T X y = nmC T X y) (hk16 : tK T p = 16 ∨ tK T p = 17) : Ok (F_X5_tellThing (nI (tK T p)) σ) (oTl T i σ0 (tTh T X p)) := by
  obtain ⟨u, hu, hK, hR⟩ := h
  have hp4 := hK.2.2.2.1
  have hcu := CU_of hR hu hp4
  unfold F_X5_tellThing tTh
  rw [(hA.p hK.1).1]
  refine Ok_t (hA.p hK.1).2 ?_
  rw [hR.1.2.1, hK.2.2.1]
  refine s_room (m := 14) hA hK hcu (by omega) (by omega) (fun c => ?_) (fun τ c hF => ?_)
  · rw [if_neg c]
    refine s_chn (k := fun τ => bnv (F_X5_blameIfNamed (nI p + 1) τ) (fun τ => F_X5_tellThing_77 (nI (tK T p)) (nI p) τ)) hA [tK T p, 2, 3, 3, 3, 4] p σ hK hcu (fun c hc => by
      rcases List.mem_cons.mp hc with rfl | hc
      · omega
      · have : ∀ c, c ∈ [2, 3, 3, 3, 4] → 2 ≤ c ∧ c ≤ 40 := by decide
        exact this c hc) (fun τ ht hk hK1 f => ?_) (fun e τ ht hF => ?_)
    · rw [ht, ebd_k]
      have hp6 : p + 6 ≤ 400 := hK1.2.2.2.1
      have hg6 : gTk T (p + 6) := hK1.2.2.2.2
      have k1 : tK T (p + 1) = 2 := hk 1 2 rfl
      have k2 : tK T (p + 2) = 3 := hk 2 3 rfl
      have k3 : tK T (p + 3) = 3 := hk 3 3 rfl
      have k4 : tK T (p + 4) = 3 := hk 4 3 rfl
      have hR1 := hR.fr f rfl
      obtain ⟨n1, n2, n3, n4, n5, n6, n7, n8⟩ := hR1
      have e1 : nI p + 1 = nI (p + 1) := nI_1 p
      have e2 : nI p + 2 = nI (p + 2) := nI_add p 2
      have e3 : nI p + 3 = nI (p + 3) := nI_add p 3
      have e4 : nI p + 4 = nI (p + 4) := nI_add p 4
      show Ok (bnv (F_X5_blameIfNamed (nI p + 1) τ) (fun τ => F_X5_tellThing_77 (nI (tK T p)) (nI p) τ)) (CRX T i σ0 (addT T X p) (p + 6))
      rw [e1]
      refine Ok_V ((s_twice hA hK1 n7 n1 n2 n5 hl hlS (by omega) (gTk_le hg6 (by omega)) k1).frV fr_X5_blameIfNamed) (fun τ1 hτ1 => ?_)
      obtain ⟨⟨hK2, hB2⟩, f1⟩ := hτ1
      unfold F_X5_tellThing_77
      rw [e2]
      refine Ok_V ((s_above (m := 999) hA hK2 hB2 (by omega) (gTk_le hg6 (by omega)) k2 (by omega)).frV fr_X5_blameAbove) (fun τ2 hτ2 => ?_)
      obtain ⟨⟨hK3, hB3⟩, f2⟩ := hτ2
      unfold F_X5_tellThing_87
      rw [e3]
      refine Ok_V ((s_above (m := 999) hA hK3 hB3 (by omega) (gTk_le hg6 (by omega)) k3 (by omega)).frV fr_X5_blameAbove) (fun τ3 hτ3 => ?_)
      obtain ⟨⟨hK4, hB4⟩, f3⟩ := hτ3
      have F0 : Fr [(0, 12, 5), (0, 12, 6)] τ τ3 := (f1.trans f2).trans f3
      have ip : ∀ j, j ≤ 5 → inb (nI (p + j)) 402 = true := by
        intro j hj
        have : p + j < 402 := by omega
        generalize p + j = z at *
        clear hA hR hK n1 n2 n3 n4 n5 n6 n7 n8 hK1 hK2 hK3 hK4 hB2 hB3 hB4 hcu; grind [gI, gB, gC]
      have v : ∀ τ', CK T i σ0 (p + 6) τ' → ∀ j, 2 ≤ j → j ≤ 4 → mA τ' 0 0 10 (p + j) = nI (tV T (p + j)) := by
        intro τ' hK' j j1 j2
        have : tK T (p + j) = 3 := by
          have : j = 2 ∨ j = 3 ∨ j = 4 := by omega
          rcases this with rfl | rfl | rfl
          · exact k2
          · exact k3
          · exact k4
        exact (hA.t hK'.1 (by omega) (gTk_le hg6 (by omega))).2.2.1 this
      unfold F_X5_tellThing_97
      rw [e2, e3, nI_clamp (show p + 2 < 2 ^ 31 by omega), nI_clamp (show p + 3 < 2 ^ 31 by omega), v τ3 hK4 2 (by omega) (by omega), v τ3 hK4 3 (by omega) (by omega), (hA.p hK4.1).1, s_taken (n1.fr F0 rfl) (n2.fr F0 rfl) hA.1 hl, bnd_s]
      refine Ok_t (hA.p hK4.1).2 (Ok_t (ip 2 (by omega)) (Ok_t (ip 3 (by omega)) ?_))
      unfold F_X5_tellThing_126
      have fin : ∀ τ4, CK T i σ0 (p + 6) τ4 → cBl T τ4 (qB (addT T X p)) → Fr [(0, 12, 5), (0, 12, 6)] τ τ4 → Ok (F_X5_tellThing_137 (nI (tK T p)) (nI p) τ4) (CRX T i σ0 (addT T X p) (p + 6)) := by
        intro τ4 hK5 hB5 F
        have m1 := n1.fr F rfl
        have lh : (qT X).length < 14 := by omega
        have il : inb (nI (qT X).length) 14 = true := by
          generalize (qT X).length = z at *
          clear hA hR hK n1 n2 n3 n4 n5 n6 n7 n8 m1 hK1 hK2 hK3 hK4 hK5 hB2 hB3 hB4 hB5 hcu ip v; grind [gI, gB, gC]
        have cl : (nI (qT X).length).toNatClampNeg = (qT X).length := nI_clamp (by omega)
        unfold F_X5_tellThing_137 F_X5_tellThing_162 F_X5_tellThing_182 F_X5_tellThing_202 F_X5_tellThing_222 F_X5_tellThing_241 F_X5_tellThing_242
        have nm1 : mL τ4 0 0 11 (p + 1) = lN (tC T (p + 1)) := (hA.t hK5.1 (by omega) (gTk_le hg6 (by omega))).2.2.2 k1
        rw [e1, e2, e3, e4, nI_clamp (show p + 1 < 2 ^ 31 by omega), nI_clamp (show p + 2 < 2 ^ 31 by omega), nI_clamp (show p + 3 < 2 ^ 31 by omega), nI_clamp (show p + 4 < 2 ^ 31 by omega), (hA.p hK5.1).1, m1.2.1, cl, nm1]
        refine Ok_t (hA.p hK5.1).2 (Ok_t (ip 1 (by omega)) (Ok_t il ?_))
        have I0 := hK5.1.L0 (k := 13) (g := vp_updL (mL τ4 0 0 13) (qT X).length (lN (tC T (p + 1)))) rfl
        generalize hw0 : setL τ4 0 0 13 (vp_updL (mL τ4 0 0 13) (qT X).length (lN (tC T (p + 1)))) = w0 at *
        have q0 : mA w0 0 0 10 = mA τ4 0 0 10 := by subst hw0; rfl
        rw [q0, v τ4 hK5 2 (by omega) (by omega)]
        refine Ok_t (hA.p I0).2 (Ok_t (ip 2 (by omega)) (Ok_t il ?_))
        have I1 := I0.A1 (k := 1) (j := (qT X).length) (v := nI (tV T (p + 2))) rfl
        generalize hw1 : setA w0 1 i 1 (upd (mA w0 1 i 1) (qT X).length (nI (tV T (p + 2)))) = w1 at *
        have q1 : mA w1 0 0 10 = mA τ4 0 0 10 := by subst hw1; rw [mA_R, if_neg (by simp), q0]
        rw [q1, v τ4 hK5 3 (by omega) (by omega)]
        refine Ok_t (hA.p I1).2 (Ok_t (ip 3 (by omega)) (Ok_t il ?_))
        have I2 := I1.A1 (k := 2) (j := (qT X).length) (v := nI (tV T (p + 3))) rfl
        generalize hw2 : setA w1 1 i 2 (upd (mA w1 1 i 2) (qT X).length (nI (tV T (p + 3)))) = w2 at *
        have q2 : mA w2 0 0 10 = mA τ4 0 0 10 := by subst hw2; rw [mA_R, if_neg (by simp), q1]
        rw [q2, v τ4 hK5 4 (by omega) (by omega)]
        refine Ok_t (hA.p I2).2 (Ok_t (ip 4 (by omega)) (Ok_t il ?_))
        have I3 := I2.A1 (k := 3) (j := (qT X).length) (v := nI (tV T (p + 4))) rfl
        generalize hw3 : setA w2 1 i 3 (upd (mA w2 1 i 3) (qT X).length (nI (tV T (p + 4)))) = w3 at *
        refine Ok_t (hA.p I3).2 ?_
        have last : ∀ s : Int32, s = (if tK T p = 16 then 1 else 0) → Ok (if inb (nI (qT X).length) 14 = true then (if okP (setA w3 1 i 4 (upd (mA w3 1 i 4) (qT X).length s)) = true then some (setA (setA w3 1 i 4 (upd (mA w3 1 i 4) (qT X).length s)) 1 i 0 (upd (mA (setA w3 1 i 4 (upd (mA w3 1 i 4) (qT X).length s)) 1 i 0) 1 (mA (setA w3 1 i 4 (upd (mA w3 1 i 4) (qT X).length s)) 1 i 0 1 + 1))) else none) else none) (CRX T i σ0 (addT T X p) (p + 6)) := by
          intro s hs
          have I4 := I3.A1 (k := 4) (j := (qT X).length) (v := s) rfl
          refine Ok_t il ?_
          generalize hw4 : setA w3 1 i 4 (upd (mA w3 1 i 4) (qT X).length s) = w4 at *
          refine Ok_t (hA.p I4).2 (Ok_r ⟨u, by omega, ?_⟩)
          have G : Fr [(0, 13, 999), (1, 1, 999), (1, 2, 999), (1, 3, 999), (1, 4, 999), (1, 0, 1)] τ4 (setA w4 1 i 0 (upd (mA w4 1 i 0) 1 (mA w4 1 i 0 1 + 1))) := by
            subst hw4 hw3 hw2 hw1 hw0
            exact (((((Fr_r.LL rfl).A rfl).A rfl).A rfl).A rfl).A rfl
          obtain ⟨-, kk2, kk3, kk4, kk5⟩ := hK5
          have FF : Fr [(0, 12, 5), (0, 12, 6), (0, 13, 999), (1, 1, 999), (1, 2, 999), (1, 3, 999), (1, 4, 999), (1, 0, 1)] τ (setA w4 1 i 0 (upd (mA w4 1 i 0) 1 (mA w4 1 i 0 1 + 1))) := (F.sub rfl).trans (G.sub rfl)
          refine ⟨⟨I4.A1 rfl, ?_, ?_, kk4, kk5⟩, ?_, ?_, n3.fr FF rfl, n4.fr FF rfl, n5.fr FF rfl, n6.fr FF rfl, hB5.fr G rfl, ?_⟩
          · rw [G.fld (t := 0) (k := 12) (f := 0) 0 rfl]; exact kk2
          · rw [G.fld (t := 0) (k := 12) (f := 4) 0 rfl]; exact kk3
          · have z : mA w4 1 i 0 1 = nI (qT X).length := by
              subst hw4 hw3 hw2 hw1 hw0
              simp only [mA_A, mL_A, mP_A, mA_L, mL_L, mP_L, upd_at]; simp; exact m1.2.1
            refine ⟨?_, ?_, ?_, ?_, ?_, ?_⟩
            · rw [FF.fld (t := 1) (k := 0) (f := 0) i rfl]; exact n1.1
            · rw [mA_A, if_pos ⟨rfl, rfl, rfl⟩, upd_at, if_pos rfl, z, nI_1]
              show _ = nI (qT X ++ [p]).length
              rw [List.length_append]; rfl
            · rw [FF.fld (t := 1) (k := 0) (f := 6) i rfl]; exact n1.2.2.1
            · rw [FF.fld (t := 1) (k := 0) (f := 8) i rfl]; exact n1.2.2.2.1
            · rw [FF.fld (t := 1) (k := 0) (f := 12) i rfl]; exact n1.2.2.2.2.1
            · rw [FF.fld (t := 1) (k := 0) (f := 14) i rfl]; exact n1.2.2.2.2.2
          · have old := n2.fr F rfl
            intro t x ht
            rcases getA (show (qT X ++ [p])[t]? = some x from ht) with hj | ⟨rfl, rfl⟩
            · have hlt := (List.getElem?_eq_some_iff.mp hj).1
              obtain ⟨o1, o2, o3, o4, o5⟩ := old t x hj
              have ne : t ≠ (qT X).length := by omega
              subst hw4 hw3 hw2 hw1 hw0
              refine ⟨?_, ?_, ?_, ?_, ?_⟩
              · simp only [mA_A, mL_A, mP_A, mA_L, mL_L, mP_L, upd_at]; simp [ne]; exact o1
              · simp only [mA_A, mL_A, mP_A, mA_L, mL_L, mP_L, upd_at]; simp [ne]; exact o2
              · simp only [mA_A, mL_A, mP_A, mA_L, mL_L, mP_L, upd_at]; simp [ne]; exact o3
              · simp only [mA_A, mL_A, mP_A, mA_L, mL_L, mP_L, upd_at]; simp [ne]; exact o4
              · simp only [mA_A, mL_A, mP_A, mA_L, mL_L, mP_L, upd_at]; simp
                show (if t = (qT X).length then _ else _) = _
                rw [if_neg ne]; exact o5
            · subst hw4 hw3 hw2 hw1 hw0
              refine ⟨?_, ?_, ?_, ?_, ?_⟩
              · simp only [mA_A, mL_A, mP_A, mA_L, mL_L, mP_L, upd_at]; simp
              · simp only [mA_A, mL_A, mP_A, mA_L, mL_L, mP_L, upd_at]; simp
              · simp only [mA_A, mL_A, mP_A, mA_L, mL_L, mP_L, upd_at]; simp
              · simp only [mA_A, mL_A, mP_A, mA_L, mL_L, mP_L, upd_at]; simp; exact hs
              · simp only [mA_A, mL_A, mP_A, mA_L, mL_L, mP_L, upd_at]; simp
                show (if (qT X).length = (qT X).length then _ else _) = _
                rw [if_pos rfl]
          · rw [FF.row (t := 1) (k := 10) i rfl]; exact n8
        rcases hk16 with z | z
        · rw [z]
          exact Ok_t rfl (last 1 (by rw [if_pos z]))
        · rw [z]
          exact Ok_f (by decide) (last 0 (by rw [if_neg (by omega)]))
      have hB4' : cBl T τ3 (bla (bla (bla (qB X) (nmd T X (p + 1) = true) 3 (p + 1)) (999 < tV T (p + 2)) 5 (p + 2)) (999 < tV T (p + 3)) 5 (p + 3)) := by
        have : nmd T X (p + 1) = nmC T X (p + 1) := hnm (p + 1)
        rw [this]; exact hB4
      by_cases ct : tkn T X p = true
      · rw [if_pos ct]
        refine Ok_f ne10 ?_
        rw [e3]
        refine Ok_V ((s_blame hA hK4 hB4' (c := 3) ⟨by omega, by omega⟩ (by omega) (gTk_le hg6 (by omega))).frV fr_X5_blame) (fun τ4 hτ4 => ?_)
        obtain ⟨⟨hK5, hB5⟩, f4⟩ := hτ4
        refine fin τ4 hK5 ?_ (F0.trans f4)
        have : qB (addT T X p) = bla (bla (bla (bla (qB X) (nmd T X (p + 1) = true) 3 (p + 1)) (999 < tV T (p + 2)) 5 (p + 2)) (999 < tV T (p + 3)) 5 (p + 3)) True 3 (p + 3) := (if_pos ct).trans (if_pos trivial).symm
        rw [this]; exact hB5
      · rw [if_neg ct]
        refine Ok_t rfl (fin τ3 hK4 ?_ F0)
        have : qB (addT T X p) = bla (bla (bla (qB X) (nmd T X (p + 1) = true) 3 (p + 1)) (999 < tV T (p + 2)) 5 (p + 2)) (999 < tV T (p + 3)) 5 (p + 3) := if_neg ct
        rw [this]; exact hB4'
    · rw [ht]; exact hF
  · rw [if_pos c]
    exact Ok_t rfl (Ok_r hF)
