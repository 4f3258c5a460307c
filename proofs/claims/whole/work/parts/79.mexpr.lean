/-! the model reads: its state between TOKENS -/
def so (k : Nat) : Nat := if k = 0 then 4 else if k = 1 then 5 else if k = 2 then 0 else if k = 3 then 1 else if k < 16 then 2 else 3
def wh (k : Nat) : Nat := if k = 4 then 59 else if k = 5 then 61 else if k = 6 then 43 else if k = 7 then 45 else if k = 8 then 42 else if k = 9 then 47 else if k = 10 then 300 else if k = 11 then 301 else if k = 12 then 60 else if k = 13 then 302 else if k = 14 then 40 else if k = 15 then 41 else if k < 25 then k - 16 else if k = 25 then 12 else if k = 26 then 11 else if k = 27 then 10 else k - 15
theorem so_le : ∀ k, k < 37 → so k ≤ 5 ∧ wh k ≤ 302 := by decide
theorem so_sign : ∀ k, k < 37 → ∀ s, s < 16 → 4 ≤ s → (so k = 2 ∧ wh k = wh s ↔ k = s) := by decide
theorem so_word : ∀ k, k < 37 → ∀ s, s < 37 → 16 ≤ s → (so k = 3 ∧ wh k = wh s ↔ k = s) := by decide
theorem so_name : ∀ k, k < 37 → (so k = 0 ↔ k = 2) ∧ (so k = 1 ↔ k = 3) ∧ (so k = 4 ↔ k = 0) ∧ (so k = 3 ↔ 16 ≤ k) ∧ (so k = 2 → 4 ≤ k) := by decide
def MI (σ0 σ : Mm) : Prop := Fr W_X12_parses σ0 σ ∧ ∀ k x, 0 < sz k → (x < sz k ∨ 2 * sz k ≤ x) → mA σ 3 0 k x = mA σ0 3 0 k x
theorem MI_r {σ : Mm} : MI σ σ := ⟨Fr_r, fun _ _ _ _ => rfl⟩
theorem MI.A {k j : Nat} {σ0 σ : Mm} {v : Int32} (h : MI σ0 σ) (hw : inW W_X12_parses 3 k j = true) (hr : sz k = 0 ∨ (sz k ≤ j ∧ j < 2 * sz k)) : MI σ0 (setA σ 3 0 k (upd (mA σ 3 0 k) j v)) := by
  refine ⟨h.1.A hw, fun k' x h0 hx => ?_⟩
  rw [mA_A]
  by_cases e : k' = k
  · subst e
    rw [if_pos ⟨rfl, rfl, rfl⟩, upd_at, if_neg (by omega)]
    exact h.2 k' x h0 hx
  · rw [if_neg (fun z => e z.2.2)]; exact h.2 k' x h0 hx
theorem MI.L {k : Nat} {σ0 σ : Mm} {g : Nat → Int64} (h : MI σ0 σ) (hw : anW W_X12_parses 3 k = true) : MI σ0 (setL σ 3 0 k g) := ⟨h.1.LL hw, fun k' x h0 hx => h.2 k' x h0 hx⟩
def AN (T : Tk) (σ0 : Mm) : Prop := TW T ∧ ∀ j, j ≤ 400 → gTk T j → mA σ0 3 0 2 j = nI (so (tK T j)) ∧ mA σ0 3 0 3 j = nI (tP T j) ∧ (4 ≤ tK T j → mA σ0 3 0 4 j = nI (wh (tK T j))) ∧ (tK T j = 3 → mA σ0 3 0 4 j = nI (tV T j)) ∧ (tK T j = 2 → mL σ0 3 0 5 j = lN (tM T j))
theorem AN.t {T : Tk} {σ0 σ : Mm} (hA : AN T σ0) (h : MI σ0 σ) {j : Nat} (hj : j ≤ 400) (hg : gTk T j) : mA σ 3 0 2 j = nI (so (tK T j)) ∧ mA σ 3 0 3 j = nI (tP T j) ∧ (4 ≤ tK T j → mA σ 3 0 4 j = nI (wh (tK T j))) ∧ (tK T j = 3 → mA σ 3 0 4 j = nI (tV T j)) ∧ (tK T j = 2 → mL σ 3 0 5 j = lN (tM T j)) := by
  rw [h.1.row (t := 3) (k := 2) 0 rfl, h.1.row (t := 3) (k := 3) 0 rfl, h.1.row (t := 3) (k := 4) 0 rfl, h.1.rowL (t := 3) (k := 5) 0 rfl]
  exact hA.2 j hj hg
def MK (T : Tk) (σ0 : Mm) (p : Nat) (σ : Mm) : Prop := MI σ0 σ ∧ mA σ 3 0 0 7 = nI p ∧ p ≤ 400 ∧ gTk T p ∧ mA σ 3 0 0 8 = 0 ∧ mA σ 3 0 0 9 = -1
def MF (T : Tk) (σ0 : Mm) (e : Nat × Nat) (σ : Mm) : Prop := MI σ0 σ ∧ (e.1 = 1 ∨ e.1 = 2) ∧ mA σ 3 0 0 8 = nI e.1 ∧ mA σ 3 0 0 9 = nI (tP T e.2)
def oM (T : Tk) (σ0 : Mm) (r : Er Nat) (q : Int32 × Mm) : Prop := match r with
  | .ok p => q.1 = 1 ∧ MK T σ0 p q.2
  | .error e => q.1 = 0 ∧ MF T σ0 e q.2
theorem ih1 {p : Nat} (h : p ≤ 400) : inb (nI p) 2001 = true ∧ (nI p).toNatClampNeg = p := ⟨by grind [gI, gB, gC], nI_clamp (by omega)⟩
theorem sz0 : sz 0 = 0 := rfl
theorem s_wrong {T : Tk} {σ0 σ : Mm} {p x : Nat} (hA : AN T σ0) (h : MK T σ0 p σ) (hx : x = 1 ∨ x = 2) : Ok (F_X12_wrong (nI x) σ) (fun q => q.1 = 0 ∧ MF T σ0 (x, p) q.2) := by
  obtain ⟨h1, h2, h3, h4, h5⟩ := h
  unfold F_X12_wrong F_X12_wrong_5 F_X12_wrong_18
  have e7 : mA (setA σ 3 0 0 (upd (mA σ 3 0 0) 8 (nI x))) 3 0 0 7 = nI p := by rw [mA_A, if_pos ⟨rfl, rfl, rfl⟩, upd_at, if_neg (by decide)]; exact h2
  have e3 : mA (setA σ 3 0 0 (upd (mA σ 3 0 0) 8 (nI x))) 3 0 3 = mA σ 3 0 3 := by rw [mA_R, if_neg (by decide)]
  rw [e7, e3, (ih1 h3).2, (hA.t h1 h3 h4).2.1]
  refine Ok_t (ih1 h3).1 (Ok_r ⟨rfl, (h1.A rfl (Or.inl sz0)).A rfl (Or.inl sz0), hx, ?_, ?_⟩)
  · simp only [mA_A, mL_A, mP_A, mA_L, mL_L, mP_L, upd_at]; simp
  · simp only [mA_A, mL_A, mP_A, mA_L, mL_L, mP_L, upd_at]; simp
theorem s_pass {T : Tk} {σ0 σ : Mm} {p : Nat} (hA : AN T σ0) (h : MK T σ0 p σ) (k0 : tK T p ≠ 0) (k1 : tK T p ≠ 1) : Ok (F_X12_pass σ) (oM T σ0 (if p < 400 then .ok (p + 1) else .error (2, p))) := by
  obtain ⟨h1, h2, h3, h4, h5⟩ := id h
  unfold F_X12_pass F_X12_pass_26
  rw [h2]
  by_cases c : p < 400
  · rw [if_pos c]
    refine Ok_t (nI_lt (b := 400) c (by omega)) (Ok_r ⟨rfl, h1.A rfl (Or.inl sz0), ?_, by omega, gTk_s h4 k0 k1, ?_⟩)
    · simp only [mA_A, mL_A, mP_A, mA_L, mL_L, mP_L, upd_at]; simp; exact nI_1 p
    · simp only [mA_A, mL_A, mP_A, mA_L, mL_L, mP_L, upd_at]; simp; exact h5
  · rw [if_neg c]
    refine Ok_f (nI_nlt (b := 400) (by omega) (by omega)) (Ok_B (s_wrong hA h (x := 2) (Or.inr rfl)) (fun v τ hv => ?_))
    unfold F_X12_pass_15
    have hv1 : v = 0 := hv.1
    exact Ok_t (by rw [hv1]; decide) (Ok_r ⟨hv1, hv.2⟩)
theorem s_takes {T : Tk} {σ0 σ : Mm} {p c s : Nat} (hA : AN T σ0) (h : MK T σ0 p σ) (hc : (c = 2 ∧ s = 0) ∨ (c = 3 ∧ s = 1)) : Ok (F_X12_takes (nI s) σ) (oM T σ0 (t1 T c p)) := by
  obtain ⟨h1, h2, h3, h4, h5⟩ := id h
  have hk := hA.1.1 p
  have hs := so_le (tK T p) (by omega)
  have hn := so_name (tK T p) (by omega)
  have hiff : so (tK T p) = s ↔ tK T p = c := by
    rcases hc with ⟨rfl, rfl⟩ | ⟨rfl, rfl⟩
    · exact hn.1
    · exact hn.2.1
  unfold F_X12_takes
  rw [h2, (ih1 h3).2, (hA.t h1 h3 h4).1]
  refine Ok_t (ih1 h3).1 ?_
  unfold t1
  by_cases c1 : tK T p = c
  · rw [if_pos c1]
    refine Ok_t (by rw [hiff.mpr c1]) (Ok_B (s_pass hA h (by omega) (by omega)) (fun v τ hv => ?_))
    unfold F_X12_takes_17
    by_cases c2 : p < 400
    · rw [if_pos c2] at hv ⊢
      have hv1 : v = 1 := hv.1
      exact Ok_t (by rw [hv1]; decide) (Ok_r hv)
    · rw [if_neg c2] at hv ⊢
      have hv1 : v = 0 := hv.1
      exact Ok_t (by rw [hv1]; decide) (Ok_r hv)
  · rw [if_neg c1]
    refine Ok_f (fun z => c1 (hiff.mp ((kq (by omega) (by omega)).mp z))) (Ok_B (s_wrong hA h (x := 1) (Or.inl rfl)) (fun v τ hv => ?_))
    unfold F_X12_takes_25
    have hv1 : v = 0 := hv.1
    exact Ok_t (by rw [hv1]; decide) (Ok_r hv)
theorem s_isSign {T : Tk} {σ0 σ : Mm} {p s c : Nat} (hA : AN T σ0) (h : MK T σ0 p σ) (hs : 4 ≤ s ∧ s < 16) (hc : wh s = c) : F_X12_isSign (nI c) σ = some (if tK T p = s then 1 else 0, σ) := by
  obtain ⟨h1, h2, h3, h4, h5⟩ := h
  have hk := hA.1.1 p
  have h6 := so_le (tK T p) (by omega)
  have h7 := so_sign (tK T p) (by omega) s hs.2 hs.1
  have h8 := so_name (tK T p) (by omega)
  have h9 := so_le s (by omega)
  have r := hA.t h1 h3 h4
  unfold F_X12_isSign
  rw [h2, (ih1 h3).2, if_pos (ih1 h3).1, if_pos (ih1 h3).1, r.1]
  by_cases c1 : so (tK T p) = 2
  · rw [if_pos (by rw [c1]; rfl), r.2.2.1 (h8.2.2.2.2 c1)]
    by_cases c2 : tK T p = s
    · rw [if_pos c2, if_pos (by rw [← hc, c2])]
    · rw [if_neg c2, if_neg (fun z => c2 (h7.mp ⟨c1, ((kq (by omega) (by omega)).mp z).trans hc.symm⟩))]
  · rw [if_neg (show ¬ nI (so (tK T p)) = 2 from fun z => c1 ((kq (c := 2) (by omega) (by omega)).mp z)), if_neg (fun z => c1 (h7.mpr z).1)]
theorem s_isWordM {T : Tk} {σ0 σ : Mm} {p s c : Nat} (hA : AN T σ0) (h : MK T σ0 p σ) (hs : 16 ≤ s ∧ s < 37) (hc : wh s = c) : F_X12_isWord (nI c) σ = some (if tK T p = s then 1 else 0, σ) := by
  obtain ⟨h1, h2, h3, h4, h5⟩ := h
  have hk := hA.1.1 p
  have h6 := so_le (tK T p) (by omega)
  have h7 := so_word (tK T p) (by omega) s hs.2 hs.1
  have h8 := so_name (tK T p) (by omega)
  have h9 := so_le s (by omega)
  have r := hA.t h1 h3 h4
  unfold F_X12_isWord
  rw [h2, (ih1 h3).2, if_pos (ih1 h3).1, if_pos (ih1 h3).1, r.1]
  by_cases c1 : so (tK T p) = 3
  · have := h8.2.2.2.1.mp c1
    rw [if_pos (by rw [c1]; rfl), r.2.2.1 (by omega)]
    by_cases c2 : tK T p = s
    · rw [if_pos c2, if_pos (by rw [← hc, c2])]
    · rw [if_neg c2, if_neg (fun z => c2 (h7.mp ⟨c1, ((kq (by omega) (by omega)).mp z).trans hc.symm⟩))]
  · rw [if_neg (show ¬ nI (so (tK T p)) = 3 from fun z => c1 ((kq (c := 3) (by omega) (by omega)).mp z)), if_neg (fun z => c1 (h7.mpr z).1)]
/-! its code and its waiting operators -/
def MX (T : Tk) (σ0 : Mm) (c : Nat) (g k : Nat → Int32) (S : List Nat) (p : Nat) (C : List Op) (σ : Mm) : Prop := MK T σ0 p σ ∧ mA σ 3 0 0 56 = nI S.length ∧ (∀ j s, S[j]? = some s → mA σ 3 0 47 j = nI s) ∧ mA σ 3 0 28 1 = nI (c + C.length) ∧
  (∀ j, j < c → mA σ 3 0 29 (500 + j) = g j ∧ mA σ 3 0 30 (500 + j) = k j) ∧ (∀ j z, C[j]? = some z → mA σ 3 0 29 (500 + (c + j)) = nI z.1 ∧ mA σ 3 0 30 (500 + (c + j)) = z.2) ∧ mA σ 3 0 0 58 = nI c
theorem MX.fr {T : Tk} {c p p' : Nat} {σ0 σ τ : Mm} {g k : Nat → Int32} {S : List Nat} {C : List Op} {W : List (Nat × Nat × Nat)} (h : MX T σ0 c g k S p C σ) (hk : MK T σ0 p' τ) (hf : Fr W σ τ) (hw : (!(inW W 3 0 56) && (!(inW W 3 0 58) && (noW W 3 47 && (noW W 3 28 && (noW W 3 29 && noW W 3 30))))) = true) : MX T σ0 c g k S p' C τ := by
  simp only [Bool.and_eq_true, Bool.not_eq_true'] at hw
  refine ⟨hk, ?_⟩
  rw [hf.fld (t := 3) (k := 0) (f := 56) 0 hw.1, hf.fld (t := 3) (k := 0) (f := 58) 0 hw.2.1, hf.row (t := 3) (k := 47) 0 hw.2.2.1, hf.row (t := 3) (k := 28) 0 hw.2.2.2.1, hf.row (t := 3) (k := 29) 0 hw.2.2.2.2.1, hf.row (t := 3) (k := 30) 0 hw.2.2.2.2.2]
  exact h.2
theorem sz28 : sz 28 = 0 := rfl
theorem sz47 : sz 47 = 0 := rfl
theorem s_emit {T : Tk} {c p o : Nat} {σ0 σ : Mm} {g k : Nat → Int32} {S : List Nat} {C : List Op} {v : Int32} (h : MX T σ0 c g k S p C σ) (hl : c + C.length < 500) : Ok (F_X12_emit (nI o) v σ) (MX T σ0 c g k S p (C ++ [(o, v)])) := by
  obtain ⟨⟨h1, h2, h3, h4, h5⟩, hw, hS, hc, hg, hC, h58⟩ := id h
  unfold F_X12_emit F_X12_emit_16 F_X12_emit_32
  have c1 : (1 : Int32).toNatClampNeg = 1 := rfl
  have ic : inb (nI (500 + (c + C.length))) 2500 = true := by
    generalize c + C.length = q at *
    clear h h1 h2 h3 h4 h5 hw hS hc hg hC; grind [gI, gB, gC]
  have ec : (500 : Int32) + nI (c + C.length) = nI (500 + (c + C.length)) := nI_add 500 _
  rw [c1, hc, ec, nI_clamp (by omega)]
  refine Ok_t (by decide) (Ok_t ic ?_)
  have e1 : mA (setA σ 3 0 29 (upd (mA σ 3 0 29) (500 + (c + C.length)) (nI o))) 3 0 28 1 = nI (c + C.length) := by rw [mA_A, if_neg (by decide)]; exact hc
  rw [e1, ec, nI_clamp (by omega)]
  refine Ok_t (by decide) (Ok_t ic (Ok_t (by decide) (Ok_t (by decide) (Ok_r ?_))))
  refine ⟨⟨((h1.A rfl (Or.inr ⟨show 500 ≤ _ by omega, show _ < 1000 by omega⟩)).A rfl (Or.inr ⟨show 500 ≤ _ by omega, show _ < 1000 by omega⟩)).A rfl (Or.inl sz28), ?_, h3, h4, ?_⟩, ?_, fun j s hj => ?_, ?_, fun j hj => ?_, fun j z hz => ?_, by simp only [mA_A, mL_A, mP_A, mA_L, mL_L, mP_L, upd_at]; simp; exact h58⟩
  · simp only [mA_A, mL_A, mP_A, mA_L, mL_L, mP_L, upd_at]; simp; exact h2
  · simp only [mA_A, mL_A, mP_A, mA_L, mL_L, mP_L, upd_at]; simp; exact h5
  · simp only [mA_A, mL_A, mP_A, mA_L, mL_L, mP_L, upd_at]; simp; exact hw
  · simp only [mA_A, mL_A, mP_A, mA_L, mL_L, mP_L, upd_at]; simp; exact hS j s hj
  · simp only [mA_A, mL_A, mP_A, mA_L, mL_L, mP_L, upd_at]; simp; rw [hc, nI_1]; rfl
  · simp only [mA_A, mL_A, mP_A, mA_L, mL_L, mP_L, upd_at]; simp; rw [if_neg (by omega), if_neg (by omega)]; exact hg j hj
  · simp only [mA_A, mL_A, mP_A, mA_L, mL_L, mP_L, upd_at]; simp
    rcases getA hz with hj | ⟨rfl, rfl⟩
    · have := (List.getElem?_eq_some_iff.mp hj).1
      rw [if_neg (by omega), if_neg (by omega)]
      exact hC j z hj
    · rw [if_pos rfl, if_pos rfl]
      exact ⟨rfl, rfl⟩
theorem s_await {T : Tk} {c p o : Nat} {σ0 σ : Mm} {g k : Nat → Int32} {S : List Nat} {C : List Op} (h : MX T σ0 c g k S p C σ) (hl : S.length < 500) : Ok (F_X12_await (nI o) σ) (MX T σ0 c g k (S ++ [o]) p C) := by
  obtain ⟨⟨h1, h2, h3, h4, h5⟩, hw, hS, hc, hg, hC, h58⟩ := id h
  unfold F_X12_await F_X12_await_10
  have ic : inb (nI S.length) 500 = true := by
    generalize S.length = q at *
    clear h h1 h2 h3 h4 h5 hw hS hc hg hC; grind [gI, gB, gC]
  rw [hw, nI_clamp (by omega)]
  refine Ok_t ic (Ok_r ?_)
  refine ⟨⟨(h1.A rfl (Or.inl sz47)).A rfl (Or.inl sz0), ?_, h3, h4, ?_⟩, ?_, fun j s hj => ?_, ?_, fun j hj => ?_, fun j z hz => ?_, by simp only [mA_A, mL_A, mP_A, mA_L, mL_L, mP_L, upd_at]; simp; exact h58⟩
  · simp only [mA_A, mL_A, mP_A, mA_L, mL_L, mP_L, upd_at]; simp; exact h2
  · simp only [mA_A, mL_A, mP_A, mA_L, mL_L, mP_L, upd_at]; simp; exact h5
  · simp only [mA_A, mL_A, mP_A, mA_L, mL_L, mP_L, upd_at]; simp; rw [hw, nI_1]
  · simp only [mA_A, mL_A, mP_A, mA_L, mL_L, mP_L, upd_at]; simp
    rcases getA hj with hj | ⟨rfl, rfl⟩
    · have := (List.getElem?_eq_some_iff.mp hj).1
      rw [if_neg (by omega)]
      exact hS j s hj
    · rw [if_pos rfl]
  · simp only [mA_A, mL_A, mP_A, mA_L, mL_L, mP_L, upd_at]; simp; exact hc
  · simp only [mA_A, mL_A, mP_A, mA_L, mL_L, mP_L, upd_at]; simp; exact hg j hj
  · simp only [mA_A, mL_A, mP_A, mA_L, mL_L, mP_L, upd_at]; simp; exact hC j z hz
def rk (o : Nat) : Nat := if o ≤ 1 then 0 else if o ≤ 3 then 1 else 2
theorem rank_nI : ∀ o, o < 6 → f_X12_rank (nI o) = nI (rk o) := by decide +kernel
theorem rk_le (o : Nat) : rk o ≤ 2 := by unfold rk; split <;> (try split) <;> omega
def pops (S : List Nat) : List Op := S.reverse.map (fun o => (o, 0))
theorem pops_len (S : List Nat) : (pops S).length = S.length := by unfold pops; rw [List.length_map, List.length_reverse]
theorem pops_app (S : List Nat) (t : Nat) : pops (S ++ [t]) = (t, 0) :: pops S := by unfold pops; rw [List.reverse_append]; rfl
def topS (S : List Nat) (lo : Nat) : Prop := S = [] ∨ ∃ S1 s, S = S1 ++ [s] ∧ rk s < lo ∧ s < 6
theorem MX.drop {T : Tk} {c p t : Nat} {σ0 σ : Mm} {g k : Nat → Int32} {S : List Nat} {C : List Op} (h : MX T σ0 c g k (S ++ [t]) p C σ) : MX T σ0 c g k S p C (setA σ 3 0 0 (upd (mA σ 3 0 0) 56 (nI S.length))) := by
  obtain ⟨⟨h1, h2, h3, h4, h5⟩, hw, hS, hc, hg, hC, h58⟩ := h
  refine ⟨⟨h1.A rfl (Or.inl sz0), ?_, h3, h4, ?_⟩, ?_, fun j s hj => ?_, ?_, fun j hj => ?_, fun j z hz => ?_, by simp only [mA_A, mL_A, mP_A, mA_L, mL_L, mP_L, upd_at]; simp; exact h58⟩
  · simp only [mA_A, mL_A, mP_A, mA_L, mL_L, mP_L, upd_at]; simp; exact h2
  · simp only [mA_A, mL_A, mP_A, mA_L, mL_L, mP_L, upd_at]; simp; exact h5
  · simp only [mA_A, mL_A, mP_A, mA_L, mL_L, mP_L, upd_at]; simp
  · simp only [mA_A, mL_A, mP_A, mA_L, mL_L, mP_L, upd_at]; simp
    have := (List.getElem?_eq_some_iff.mp hj).1
    exact hS j s (by rw [List.getElem?_append_left this]; exact hj)
  · simp only [mA_A, mL_A, mP_A, mA_L, mL_L, mP_L, upd_at]; simp; exact hc
  · simp only [mA_A, mL_A, mP_A, mA_L, mL_L, mP_L, upd_at]; simp; exact hg j hj
  · simp only [mA_A, mL_A, mP_A, mA_L, mL_L, mP_L, upd_at]; simp; exact hC j z hz
theorem MX.top {T : Tk} {c p t : Nat} {σ0 σ : Mm} {g k : Nat → Int32} {S : List Nat} {C : List Op} (h : MX T σ0 c g k (S ++ [t]) p C σ) (hl : S.length < 450) : mA σ 3 0 0 56 = nI (S.length + 1) ∧ mA σ 3 0 0 56 - 1 = nI S.length ∧ mA σ 3 0 47 S.length = nI t ∧ inb (nI S.length) 500 = true ∧ (nI S.length).toNatClampNeg = S.length := by
  have h1 : mA σ 3 0 0 56 = nI (S.length + 1) := by
    have := h.2.1
    rw [List.length_append] at this
    exact this
  refine ⟨h1, ?_, h.2.2.1 S.length t (by rw [List.getElem?_append_right (by omega), Nat.sub_self]; rfl), ?_, nI_clamp (by omega)⟩
  · rw [h1, show nI (S.length + 1) - 1 = nI (S.length + 1 - 1) from pk_sub (b := 1) (by omega)]; rfl
  · generalize S.length = q at *
    clear h h1; grind [gI, gB, gC]
theorem s_reduceL {T : Tk} {c p lo : Nat} {σ0 : Mm} {g k : Nat → Int32} (hlo : lo ≤ 3) : ∀ (n : Nat) (S' S : List Nat) (C : List Op) (σ : Mm), S'.length < n → MX T σ0 c g k (S ++ S') p C σ → (∀ s ∈ S', lo ≤ rk s ∧ s < 6) → topS S lo → c + C.length + (S.length + S'.length) ≤ 420 → Ok (F_X12_reduce_0L n (nI lo) 0 σ) (MX T σ0 c g k S p (C ++ pops S')) := by
  intro n
  induction n with
  | zero => intro S' S C σ h; omega
  | succ n ih =>
    intro S' S C σ hn h hS' ht hb
    change Ok (B_X12_reduce_0L (F_X12_reduce_0L n) _ _ _) _
    unfold B_X12_reduce_0L
    rcases List.eq_nil_or_concat S' with rfl | ⟨S2, t, rfl⟩
    · rw [List.append_nil] at h
      have e : C ++ pops [] = C := by show C ++ [] = C; rw [List.append_nil]
      rw [e]
      rcases ht with rfl | ⟨S1, s, rfl, h2, h3⟩
      · exact Ok_t (by rw [h.2.1]; decide) (Ok_r h)
      · rw [List.length_append] at hb
        obtain ⟨r1, r2, r3, r4, r5⟩ := h.top (by omega)
        rw [r2, r5, r3, rank_nI s h3, r1]
        exact Ok_f (nI_ge (a := 0) (by omega) (by omega)) (Ok_t r4 (Ok_t (nI_lt h2 (by omega)) (Ok_r h)))
    · rw [List.concat_eq_append] at *
      rw [← List.append_assoc] at h
      have hl2 : (S2 ++ [t]).length = S2.length + 1 := by rw [List.length_append]; rfl
      have hl3 : (S ++ S2).length = S.length + S2.length := List.length_append
      obtain ⟨r1, r2, r3, r4, r5⟩ := h.top (by omega)
      have ht2 := hS' t (List.mem_append_right _ List.mem_cons_self)
      have hrk := rk_le t
      rw [r2, r5, r3, rank_nI t ht2.2, r1]
      refine Ok_f (nI_ge (a := 0) (by omega) (by omega)) (Ok_t r4 (Ok_f (nI_nlt ht2.1 (by omega)) ?_))
      unfold F_X12_reduce_36
      have hD := h.drop
      have e1 : mA (setA σ 3 0 0 (upd (mA σ 3 0 0) 56 (nI (S ++ S2).length))) 3 0 47 = mA σ 3 0 47 := by rw [mA_R, if_neg (by decide)]
      rw [hD.2.1, e1, r5, r3]
      refine Ok_t r4 (Ok_V (s_emit (o := t) hD (by omega)) (fun τ hτ => ?_))
      unfold F_X12_reduce_50
      have := ih S2 S (C ++ [(t, 0)]) τ (by omega) hτ (fun s hs => hS' s (List.mem_append_left _ hs)) ht (by rw [List.length_append]; show c + (C.length + 1) + _ ≤ _; omega)
      rw [pops_app]
      rw [List.append_assoc] at this
      exact this
theorem s_reduce {T : Tk} {c p lo : Nat} {σ0 σ : Mm} {g k : Nat → Int32} {S S' : List Nat} {C : List Op} (hlo : lo ≤ 3) (h : MX T σ0 c g k (S ++ S') p C σ) (hS' : ∀ s ∈ S', lo ≤ rk s ∧ s < 6) (ht : topS S lo) (hb : c + C.length + (S.length + S'.length) ≤ 420) : Ok (F_X12_reduce (nI lo) 0 σ) (MX T σ0 c g k S p (C ++ pops S')) :=
  s_reduceL hlo FU S' S C σ (by show _ < 1000000; omega) h hS' ht hb
/-! the two stacks against the descent -/
def MU (T : Tk) (σ0 : Mm) (c : Nat) (g k : Nat → Int32) (o lo : Nat) (Tl : Nat → Prop) (r : Nat → Er Ex) : Prop := ∀ (n p : Nat) (S : List Nat) (C : List Op) (σ : Mm) (Q : Int32 × Mm → Prop), 900 ≤ n + p → MX T σ0 c g k S p C σ → topS S lo → c + C.length + S.length ≤ p →
  (∀ L q, r p = .ok (L, q) → ∀ n' σ' S' C', 900 ≤ n' + q → MX T σ0 c g k (S ++ S') q C' σ' → (∀ s ∈ S', lo ≤ rk s ∧ s < 6) → C' ++ pops S' = C ++ L → Tl q → Ok (F_X12_expr_21 n' (nI o) 0 1 σ') Q) →
  (∀ e, r p = .error e → ∀ σ', MF T σ0 e σ' → Q (0, σ')) → Ok (F_X12_expr_21 n (nI o) 1 1 σ) Q
theorem m_await {T : Tk} {c q o' : Nat} {σ0 σ : Mm} {g k : Nat → Int32} {S : List Nat} {C : List Op} {Q : Int32 × Mm → Prop} {f : Int32 → Mm → Option (Int32 × Mm)} (hA : AN T σ0) (h : MX T σ0 c g k S q C σ) (hl : S.length < 450) (k0 : tK T q ≠ 0) (k1 : tK T q ≠ 1)
    (hp : ∀ σ', q < 400 → MX T σ0 c g k (S ++ [o']) (q + 1) C σ' → Ok (f 1 σ') Q) (he : ¬ q < 400 → ∀ σ', MF T σ0 (2, q) σ' → Ok (f 0 σ') Q) : Ok (bnv (F_X12_await (nI o') σ) (fun τ => bnd (F_X12_pass τ) f)) Q := by
  refine Ok_V (s_await (o := o') h (by omega)) (fun τ hτ => Ok_B ((s_pass hA hτ.1 k0 k1).frI fr_X12_pass) (fun v υ hv => ?_))
  obtain ⟨hv, fr⟩ := hv
  by_cases c2 : q < 400
  · rw [if_pos c2] at hv
    have hv1 : v = 1 := hv.1
    rw [hv1]
    exact hp υ c2 (hτ.fr hv.2 fr rfl)
  · rw [if_neg c2] at hv
    have hv1 : v = 0 := hv.1
    rw [hv1]
    exact he c2 υ hv.2
theorem m_op {T : Tk} {c o lo kd n q : Nat} {σ0 σ : Mm} {g k : Nat → Int32} {S S' : List Nat} {C' : List Op} {Q : Int32 × Mm → Prop} (hA : AN T σ0) (hlo : (lo = 2 ∧ (kd = 8 ∨ kd = 9)) ∨ (lo = 1 ∧ (kd = 6 ∨ kd = 7))) (hk : tK T q = kd) (h : MX T σ0 c g k (S ++ S') q C' σ)
    (hS' : ∀ s ∈ S', lo ≤ rk s ∧ s < 6) (ht : topS S lo) (hb : c + C'.length + (S.length + S'.length) ≤ q)
    (hp : ∀ σ', q < 400 → MX T σ0 c g k (S ++ [kd - 4]) (q + 1) (C' ++ pops S') σ' → Ok (F_X12_expr_21 n (nI o) 1 1 σ') Q) (he : ¬ q < 400 → ∀ σ', MF T σ0 (2, q) σ' → Q (0, σ')) : Ok (F_X12_expr_21 (n + 1) (nI o) 0 1 σ) Q := by
  have hq4 : q ≤ 400 := h.1.2.2.1
  change Ok (B_X12_expr_21 (F_X12_expr_21 n) _ _ _ _) _
  unfold B_X12_expr_21
  have sg : ∀ {s w : Nat} {τ : Mm}, MK T σ0 q τ → (4 ≤ s ∧ s < 16) → wh s = w → F_X12_isSign (nI w) τ = some (if kd = s then 1 else 0, τ) := fun hτ hs hw => by rw [s_isSign hA hτ hs hw, hk]
  have g42 : ∀ {τ : Mm}, MK T σ0 q τ → F_X12_isSign 42 τ = some (if kd = 8 then 1 else 0, τ) := fun hτ => sg (s := 8) (w := 42) hτ (by omega) rfl
  have g47 : ∀ {τ : Mm}, MK T σ0 q τ → F_X12_isSign 47 τ = some (if kd = 9 then 1 else 0, τ) := fun hτ => sg (s := 9) (w := 47) hτ (by omega) rfl
  have g43 : ∀ {τ : Mm}, MK T σ0 q τ → F_X12_isSign 43 τ = some (if kd = 6 then 1 else 0, τ) := fun hτ => sg (s := 6) (w := 43) hτ (by omega) rfl
  have g45 : ∀ {τ : Mm}, MK T σ0 q τ → F_X12_isSign 45 τ = some (if kd = 7 then 1 else 0, τ) := fun hτ => sg (s := 7) (w := 45) hτ (by omega) rfl
  refine Ok_f (by decide) (Ok_t rfl ?_)
  rw [g42 h.1, bnd_s]
  unfold F_X12_expr_178 F_X12_expr_187 F_X12_expr_234 F_X12_expr_243
  have fin2 : lo = 2 → (kd = 8 ∨ kd = 9) → Ok (F_X12_expr_190 (F_X12_expr_21 n) (nI o) 1 σ) Q := by
    intro hl hkd
    subst hl
    unfold F_X12_expr_190
    refine Ok_V (s_reduce (lo := 2) (by omega) h hS' ht (by omega)) (fun τ hτ => ?_)
    unfold F_X12_expr_196
    rw [g42 hτ.1, bnd_s]
    unfold F_X12_expr_203 F_X12_expr_211 F_X12_expr_214
    have go : ∀ o' : Nat, kd - 4 = o' → Ok (bnv (F_X12_await (nI o') τ) (fun τ => bnd (F_X12_pass τ) (fun v τ => F_X12_expr_218 (F_X12_expr_21 n) (nI o) 1 v τ))) Q := by
      intro o' ho
      refine m_await hA hτ (by omega) (by omega) (by omega) (fun σ' hq hX => ?_) (fun hq σ' hF => ?_)
      · unfold F_X12_expr_218
        exact Ok_f (by decide) (hp σ' hq (by rw [ho]; exact hX))
      · unfold F_X12_expr_218
        exact Ok_t rfl (Ok_r (he hq σ' hF))
    rcases hkd with z | z
    · rw [if_pos z, if_neg ne10]; exact go 4 (by omega)
    · rw [if_neg (show ¬ kd = 8 by omega), if_pos rfl]; exact go 5 (by omega)
  have fin1 : lo = 1 → (kd = 6 ∨ kd = 7) → Ok (F_X12_expr_246 (F_X12_expr_21 n) (nI o) 1 σ) Q := by
    intro hl hkd
    subst hl
    unfold F_X12_expr_246
    refine Ok_V (s_reduce (lo := 1) (by omega) h hS' ht (by omega)) (fun τ hτ => ?_)
    unfold F_X12_expr_252
    rw [g43 hτ.1, bnd_s]
    unfold F_X12_expr_259 F_X12_expr_267 F_X12_expr_270
    have go : ∀ o' : Nat, kd - 4 = o' → Ok (bnv (F_X12_await (nI o') τ) (fun τ => bnd (F_X12_pass τ) (fun v τ => F_X12_expr_274 (F_X12_expr_21 n) (nI o) 1 v τ))) Q := by
      intro o' ho
      refine m_await hA hτ (by omega) (by omega) (by omega) (fun σ' hq hX => ?_) (fun hq σ' hF => ?_)
      · unfold F_X12_expr_274
        exact Ok_f (by decide) (hp σ' hq (by rw [ho]; exact hX))
      · unfold F_X12_expr_274
        exact Ok_t rfl (Ok_r (he hq σ' hF))
    rcases hkd with z | z
    · rw [if_pos z, if_neg ne10]; exact go 2 (by omega)
    · rw [if_neg (show ¬ kd = 6 by omega), if_pos rfl]; exact go 3 (by omega)
  rcases hlo with ⟨hl, hkd⟩ | ⟨hl, hkd⟩
  · rcases hkd with z | z
    · rw [if_pos z, if_neg ne10]; exact fin2 hl (Or.inl z)
    · rw [if_neg (show ¬ kd = 8 by omega), if_pos rfl, g47 h.1, bnd_s, if_pos z, if_neg ne10]; exact fin2 hl (Or.inr z)
  · rw [if_neg (show ¬ kd = 8 by omega), if_pos rfl, g47 h.1, bnd_s, if_neg (show ¬ kd = 9 by omega), if_pos rfl, g43 h.1, bnd_s]
    rcases hkd with z | z
    · rw [if_pos z, if_neg ne10]; exact fin1 hl (Or.inl z)
    · rw [if_neg (show ¬ kd = 6 by omega), if_pos rfl, g45 h.1, bnd_s, if_pos z, if_neg ne10]; exact fin1 hl (Or.inr z)
theorem m_exit {T : Tk} {n q : Nat} {σ0 σ : Mm} {x : Int32} (hA : AN T σ0) (h : MK T σ0 q σ) (h6 : tK T q ≠ 6) (h7 : tK T q ≠ 7) (h8 : tK T q ≠ 8) (h9 : tK T q ≠ 9) : F_X12_expr_21 (n + 1) x 0 1 σ = if x ≤ 0 then F_X12_expr_21 n x 0 0 σ else bnd (F_X12_isSign 41 σ) (fun v τ => F_X12_expr_294 (F_X12_expr_21 n) x 0 1 v τ) := by
  have g42 : F_X12_isSign 42 σ = some (0, σ) := (s_isSign (s := 8) (c := 42) hA h (by omega) rfl).trans (by rw [if_neg h8])
  have g47 : F_X12_isSign 47 σ = some (0, σ) := (s_isSign (s := 9) (c := 47) hA h (by omega) rfl).trans (by rw [if_neg h9])
  have g43 : F_X12_isSign 43 σ = some (0, σ) := (s_isSign (s := 6) (c := 43) hA h (by omega) rfl).trans (by rw [if_neg h6])
  have g45 : F_X12_isSign 45 σ = some (0, σ) := (s_isSign (s := 7) (c := 45) hA h (by omega) rfl).trans (by rw [if_neg h7])
  change B_X12_expr_21 (F_X12_expr_21 n) _ _ _ _ = _
  unfold B_X12_expr_21
  rw [if_neg ne10, if_pos rfl, g42, bnd_s]
  unfold F_X12_expr_178
  rw [if_pos rfl, g47, bnd_s]
  unfold F_X12_expr_187
  rw [if_pos rfl, g43, bnd_s]
  unfold F_X12_expr_234
  rw [if_pos rfl, g45, bnd_s]
  unfold F_X12_expr_243
  rw [if_pos rfl]
theorem m_loop {T : Tk} {c o lo ck : Nat} {σ0 : Mm} {g k : Nat → Int32} {sub : Nat → Er Ex} {Tl : Nat → Prop} (hA : AN T σ0) (hlo : (lo = 2 ∧ ck = 8) ∨ (lo = 1 ∧ ck = 6)) (hlen : sLn T sub) (hsub : MU T σ0 c g k o (lo + 1) Tl sub) (hTl : lo = 1 → ∀ q, Tl q → tK T q ≠ 8 ∧ tK T q ≠ 9) :
    ∀ (m n q : Nat) (A : List Op) (S S' : List Nat) (C C' : List Op) (σ : Mm) (Q : Int32 × Mm → Prop), 500 ≤ m + q → 900 ≤ n + q → MX T σ0 c g k (S ++ S') q C' σ → (∀ s ∈ S', lo ≤ rk s ∧ s < 6) → C' ++ pops S' = C ++ A → topS S lo → Tl q → c + C.length + A.length + S.length ≤ q →
    (∀ L q', xL T ck sub m A q = .ok (L, q') → ∀ n' σ' S2 C2, 900 ≤ n' + q' → MX T σ0 c g k (S ++ S2) q' C2 σ' → (∀ s ∈ S2, lo ≤ rk s ∧ s < 6) → C2 ++ pops S2 = C ++ L → (Tl q' ∧ tK T q' ≠ ck ∧ tK T q' ≠ ck + 1) → Ok (F_X12_expr_21 n' (nI o) 0 1 σ') Q) →
    (∀ e, xL T ck sub m A q = .error e → ∀ σ', MF T σ0 e σ' → Q (0, σ')) → Ok (F_X12_expr_21 n (nI o) 0 1 σ) Q := by
  intro m
  induction m with
  | zero => intro n q A S S' C C' σ Q h1 h2 h; have := h.1.2.2.1; omega
  | succ m ih =>
    intro n q A S S' C C' σ Q hm hn h hS' hC ht hT hb hk he
    have hq4 : q ≤ 400 := h.1.2.2.1
    have hg : gTk T q := h.1.2.2.2.1
    rw [xL_s] at hk he
    have hlC : C'.length + S'.length = C.length + A.length := by
      have := congrArg List.length hC
      rw [List.length_append, List.length_append, pops_len] at this
      exact this
    by_cases c1 : tK T q = ck ∨ tK T q = ck + 1
    · rw [if_pos c1] at hk he
      obtain ⟨n', rfl⟩ : ∃ n', n = n' + 1 := ⟨n - 1, by omega⟩
      refine m_op (kd := tK T q) hA (by omega) rfl h hS' ht (by omega) (fun σ' hq hX => ?_) (fun hq σ' hF => ?_)
      · rw [if_pos hq] at hk he
        rw [hC] at hX
        have hlo2 : ∀ s, s = tK T q - 4 → rk s = lo ∧ s < 6 := by
          intro s hs
          have : s = 4 ∨ s = 5 ∨ s = 2 ∨ s = 3 := by omega
          rcases hlo with ⟨z1, z2⟩ | ⟨z1, z2⟩
          · have : s = 4 ∨ s = 5 := by omega
            rcases this with rfl | rfl
            · exact ⟨z1.symm, by omega⟩
            · exact ⟨z1.symm, by omega⟩
          · have : s = 2 ∨ s = 3 := by omega
            rcases this with rfl | rfl
            · exact ⟨z1.symm, by omega⟩
            · exact ⟨z1.symm, by omega⟩
        have hl1 := hlo2 _ rfl
        refine hsub n' (q + 1) (S ++ [tK T q - 4]) (C ++ A) σ' Q (by omega) hX (Or.inr ⟨S, _, rfl, by omega, hl1.2⟩) (by simp only [List.length_append, List.length_cons, List.length_nil]; omega) (fun L q1 hr n2 σ2 S2 C2 hn2 hX2 hS2 hC2 hT2 => ?_) (fun e hr σ2 hF => ?_)
        · rw [hr] at hk he
          obtain ⟨z1, z2, z3, z4⟩ := hlen (q + 1) L q1 (by omega) (gTk_s hg (by omega) (by omega)) hr
          refine ih n2 q1 (A ++ L ++ [(tK T q - 4, 0)]) S ([tK T q - 4] ++ S2) C C2 σ2 Q (by omega) hn2 (by rw [← List.append_assoc]; exact hX2) (fun s hs => ?_) ?_ ht hT2 (by simp only [List.length_append, List.length_cons, List.length_nil]; omega) hk he
          · rcases List.mem_append.mp hs with hs | hs
            · have := hlo2 s (List.mem_singleton.mp hs); omega
            · have := hS2 s hs; omega
          · have e1 : pops ([tK T q - 4] ++ S2) = pops S2 ++ [(tK T q - 4, 0)] := by
              unfold pops
              rw [List.reverse_append, List.map_append]; rfl
            rw [e1, ← List.append_assoc, hC2, List.append_assoc, List.append_assoc, List.append_assoc]
        · rw [hr] at he
          exact he e rfl σ2 hF
      · rw [if_neg hq] at he
        exact he _ rfl σ' hF
    · rw [if_neg c1] at hk
      exact hk A q rfl n σ S' C' hn h hS' hC ⟨hT, fun z => c1 (Or.inl z), fun z => c1 (Or.inr z)⟩
theorem m_E {T : Tk} {c o lo ck : Nat} {σ0 : Mm} {g k : Nat → Int32} {sub : Nat → Er Ex} {Tl : Nat → Prop} (hA : AN T σ0) (hlo : (lo = 2 ∧ ck = 8) ∨ (lo = 1 ∧ ck = 6)) (hlen : sLn T sub) (hsub : MU T σ0 c g k o (lo + 1) Tl sub) (hTl : lo = 1 → ∀ q, Tl q → tK T q ≠ 8 ∧ tK T q ≠ 9) :
    MU T σ0 c g k o lo (fun q => Tl q ∧ tK T q ≠ ck ∧ tK T q ≠ ck + 1) (xE T ck sub) := by
  intro n p S C σ Q hn h ht hb hk he
  have hp4 : p ≤ 400 := h.1.2.2.1
  have hg : gTk T p := h.1.2.2.2.1
  unfold xE at hk he
  refine hsub n p S C σ Q hn h ?_ hb (fun L q hr n' σ' S' C' hn' hX hS' hC hT => ?_) (fun e hr σ' hF => ?_)
  · rcases ht with z | ⟨S1, s, z1, z2, z3⟩
    · exact Or.inl z
    · exact Or.inr ⟨S1, s, z1, by omega, z3⟩
  · rw [hr] at hk he
    obtain ⟨z1, z2, z3, z4⟩ := hlen p L q hp4 hg hr
    exact m_loop hA hlo hlen hsub hTl XF n' q L S S' C C' σ' Q (by show 500 ≤ 500 + _; omega) hn' hX (fun s hs => ⟨by have := (hS' s hs).1; omega, (hS' s hs).2⟩) hC ht hT (by omega) hk he
  · rw [hr] at he
    exact he e rfl σ' hF
theorem m_U {T : Tk} {c o : Nat} {σ0 : Mm} {g k : Nat → Int32} {rec : Nat → Er Ex} {last : Bool} {Tl : Nat → Prop} (hA : AN T σ0) (ho : o ≤ 6) (hl : last = decide (6 ≤ o)) (hlen : sLn T rec)
    (hTl : ∀ q, Tl q → tK T q ≠ 6 ∧ tK T q ≠ 7 ∧ tK T q ≠ 8 ∧ tK T q ≠ 9) (hrec : last = false → MU T σ0 c g k (o + 1) 1 Tl rec) : MU T σ0 c g k o 3 (fun _ => True) (xU T rec last) := by
  intro n p S C σ Q hn h ht hb hk he
  have hp4 : p ≤ 400 := h.1.2.2.1
  have hg : gTk T p := h.1.2.2.2.1
  have hk36 := hA.1.1 p
  obtain ⟨n, rfl⟩ : ∃ n', n = n' + 1 := ⟨n - 1, by omega⟩
  change Ok (B_X12_expr_21 (F_X12_expr_21 n) _ _ _ _) _
  unfold B_X12_expr_21
  have g40 : F_X12_isSign 40 σ = some (if tK T p = 14 then 1 else 0, σ) := s_isSign (s := 14) (c := 40) hA h.1 (by omega) rfl
  refine Ok_f ne10 (Ok_f ne10 ?_)
  rw [g40, bnd_s]
  unfold xU at hk he
  unfold F_X12_expr_35
  have r := hA.t h.1.1 hp4 hg
  by_cases c1 : tK T p = 14
  · rw [if_pos c1] at hk he
    rw [if_pos c1]
    refine Ok_f ne10 ?_
    by_cases c2 : 6 ≤ o
    · have hl2 : last = true := by rw [hl]; exact decide_eq_true c2
      rw [if_pos hl2] at he
      have : o = 6 := by omega
      refine Ok_t (by rw [this]; rfl) (Ok_B (s_wrong hA h.1 (x := 2) (Or.inr rfl)) (fun v τ hv => ?_))
      unfold F_X12_expr_49
      have hv1 : v = 0 := hv.1
      subst hv1
      exact Ok_t (by decide) (Ok_r (he _ rfl τ hv.2))
    · have hl2 : last = false := by rw [hl]; exact decide_eq_false c2
      have hl3 : ¬ last = true := by rw [hl2]; decide
      rw [if_neg hl3] at hk he
      refine Ok_f (show ¬ nI o = nI 6 from fun z => c2 (by have := (kq (by omega) (by omega)).mp z; omega)) (Ok_B ((s_pass hA h.1 (by omega) (by omega)).frI fr_X12_pass) (fun v τ hv => ?_))
      obtain ⟨hv, fr⟩ := hv
      unfold F_X12_expr_54
      by_cases c3 : p < 400
      · rw [if_pos c3] at hv hk he
        have hv1 : v = 1 := hv.1
        subst hv1
        have hX := h.fr hv.2 fr rfl
        refine Ok_f ne10 (Ok_V (s_await (o := 0) hX (by omega)) (fun υ hυ => ?_))
        unfold F_X12_expr_67
        rw [nI_1]
        refine hrec hl2 n (p + 1) (S ++ [0]) C υ Q (by omega) hυ (Or.inr ⟨S, 0, rfl, by decide, by omega⟩) (by rw [List.length_append]; show c + C.length + (S.length + 1) ≤ _; omega) (fun L q hr n' σ' S' C' hn' hX2 hS' hC' hT => ?_) (fun e hr σ' hF => ?_)
        · rw [hr] at hk he
          obtain ⟨z1, z2, z3, z4⟩ := hlen (p + 1) L q (by omega) hv.2.2.2.2.1 hr
          obtain ⟨t6, t7, t8, t9⟩ := hTl q hT
          obtain ⟨n', rfl⟩ : ∃ n2, n' = n2 + 1 := ⟨n' - 1, by omega⟩
          rw [m_exit hA hX2.1 t6 t7 t8 t9]
          have g41 : F_X12_isSign 41 σ' = some (if tK T q = 15 then 1 else 0, σ') := s_isSign (s := 15) (c := 41) hA hX2.1 (by omega) rfl
          refine Ok_f (nI_ge (a := 0) (by omega) (by omega)) ?_
          rw [g41, bnd_s]
          unfold F_X12_expr_294
          have hlC : C'.length + S'.length = C.length + L.length := by
            have := congrArg List.length hC'
            rw [List.length_append, List.length_append, pops_len] at this
            exact this
          by_cases c15 : tK T q = 15
          · rw [if_pos c15]
            refine Ok_f ne10 (Ok_B ((s_pass hA hX2.1 (by omega) (by omega)).frI fr_X12_pass) (fun w φ hw => ?_))
            obtain ⟨hw, fr2⟩ := hw
            unfold F_X12_expr_307
            by_cases c4 : q < 400
            · rw [if_pos c4] at hw
              have hw1 : w = 1 := hw.1
              subst hw1
              have ht1 : t1 T 15 q = .ok (q + 1) := by unfold t1; rw [if_pos c15, if_pos c4]
              have hlS : (S ++ [0]).length = S.length + 1 := by rw [List.length_append]; rfl
              refine Ok_f ne10 (Ok_V (s_reduce (lo := 1) (by omega) (hX2.fr hw.2 fr2 rfl) hS' (Or.inr ⟨S, 0, rfl, by decide, by omega⟩) (by omega)) (fun ψ hψ => ?_))
              unfold F_X12_expr_318 F_X12_expr_328
              rw [hC'] at hψ
              obtain ⟨-, r2, -, -, -⟩ := hψ.top (by omega)
              rw [r2, pk_m1]
              have hD := hψ.drop
              refine hk L (q + 1) ?_ n' _ [] (C ++ L) (by omega) (by rw [List.append_nil]; exact hD) (fun s hs => by cases hs) (by show (C ++ L) ++ [] = _; rw [List.append_nil]) trivial
              show ebd (t1 T 15 q) (fun q' => (.ok (L, q') : Er Ex)) = _
              rw [ht1]; rfl
            · rw [if_neg c4] at hw
              have hw1 : w = 0 := hw.1
              subst hw1
              have ht1 : t1 T 15 q = .error (2, q) := by unfold t1; rw [if_pos c15, if_neg c4]
              refine Ok_t rfl (Ok_r (he (2, q) ?_ φ hw.2))
              show ebd (t1 T 15 q) (fun q' => (.ok (L, q') : Er Ex)) = _
              rw [ht1]; rfl
          · rw [if_neg c15]
            have ht1 : t1 T 15 q = .error (1, q) := by unfold t1; rw [if_neg c15]
            refine Ok_t rfl (Ok_B (s_wrong hA hX2.1 (x := 1) (Or.inl rfl)) (fun w φ hw => ?_))
            unfold F_X12_expr_302
            have hw1 : w = 0 := hw.1
            subst hw1
            refine Ok_t (by decide) (Ok_r (he (1, q) ?_ φ hw.2))
            show ebd (t1 T 15 q) (fun q' => (.ok (L, q') : Er Ex)) = _
            rw [ht1]; rfl
        · rw [hr] at he
          exact he e rfl σ' hF
      · rw [if_neg c3] at hv he
        have hv1 : v = 0 := hv.1
        subst hv1
        exact Ok_t rfl (Ok_r (he _ rfl τ hv.2))
  · rw [if_neg c1] at hk he
    rw [if_neg c1]
    have hem : ∀ (w : Nat) (v : Int32), (∀ L q, (if p < 400 then (.ok ([(w, v)], p + 1) : Er Ex) else .error (2, p)) = .ok (L, q) → ∀ n' σ' S' C', 900 ≤ n' + q → MX T σ0 c g k (S ++ S') q C' σ' → (∀ s ∈ S', 3 ≤ rk s ∧ s < 6) → C' ++ pops S' = C ++ L → True → Ok (F_X12_expr_21 n' (nI o) 0 1 σ') Q) →
        (∀ e, (if p < 400 then (.ok ([(w, v)], p + 1) : Er Ex) else .error (2, p)) = .error e → ∀ σ', MF T σ0 e σ' → Q (0, σ')) → tK T p ≠ 0 → tK T p ≠ 1 → Ok (F_X12_expr_155 (F_X12_expr_21 n) (nI o) 1 v (nI w) σ) Q := by
      intro w v hk he k0 k1
      unfold F_X12_expr_155
      refine Ok_V (s_emit (o := w) (v := v) h (by omega)) (fun τ hτ => ?_)
      unfold F_X12_expr_158
      refine Ok_B ((s_pass hA hτ.1 k0 k1).frI fr_X12_pass) (fun w' υ hw => ?_)
      obtain ⟨hw, fr2⟩ := hw
      unfold F_X12_expr_162
      by_cases c4 : p < 400
      · rw [if_pos c4] at hw hk he
        have hw1 : w' = 1 := hw.1
        subst hw1
        exact Ok_f ne10 (hk _ _ rfl n υ [] (C ++ [(w, v)]) (by omega) (by rw [List.append_nil]; exact hτ.fr hw.2 fr2 rfl) (fun s hs => by cases hs) (by show (C ++ [(w, v)]) ++ [] = _; rw [List.append_nil]) trivial)
      · rw [if_neg c4] at hw he
        have hw1 : w' = 0 := hw.1
        subst hw1
        exact Ok_t rfl (Ok_r (he _ rfl υ hw.2))
    have hwr : (∀ e, (.error (1, p) : Er Ex) = .error e → ∀ σ', MF T σ0 e σ' → Q (0, σ')) → Ok (bnd (F_X12_wrong 1 σ) (fun v τ => F_X12_expr_124 v τ)) Q := by
      intro he
      refine Ok_B (s_wrong hA h.1 (x := 1) (Or.inl rfl)) (fun w φ hw => ?_)
      unfold F_X12_expr_124
      have hw1 : w = 0 := hw.1
      subst hw1
      exact Ok_t (by decide) (Ok_r (he _ rfl φ hw.2))
    have hn := so_name (tK T p) (by omega)
    have hle := so_le (tK T p) (by omega)
    have hwh : tK T p < 28 → 16 ≤ tK T p → wh (tK T p) ≤ 12 := by
      have : ∀ k, k < 37 → k < 28 → 16 ≤ k → wh k ≤ 12 := by decide
      exact this _ (by omega)
    have hwh2 : 28 ≤ tK T p → wh (tK T p) = tK T p - 15 := by
      have : ∀ k, k < 37 → 28 ≤ k → wh k = k - 15 := by decide
      exact this _ (by omega)
    have m10 : ¬ (0 : Int32) ≤ -1 := by decide
    refine Ok_t rfl ?_
    rw [h.1.2.1, (ih1 hp4).2, r.1]
    refine Ok_t (ih1 hp4).1 ?_
    by_cases c2 : tK T p = 3
    · rw [if_pos c2] at hk he
      have hs1 : so (tK T p) = 1 := hn.2.1.mpr c2
      rw [hs1]
      refine Ok_f (by decide) ?_
      unfold F_X12_expr_99
      rw [h.1.2.1, (ih1 hp4).2, r.1, hs1]
      refine Ok_t (ih1 hp4).1 (Ok_t rfl ?_)
      unfold F_X12_expr_125 F_X12_expr_136
      rw [h.1.2.1, (ih1 hp4).2, r.2.2.2.1 c2]
      refine Ok_f m10 (Ok_f m10 (Ok_t (ih1 hp4).1 ?_))
      exact hem 0 (nI (tV T p)) hk he (by omega) (by omega)
    · rw [if_neg c2] at hk he
      have hs1 : ¬ so (tK T p) = 1 := fun z => c2 (hn.2.1.mp z)
      by_cases c3 : 16 ≤ tK T p
      · have hs3 : so (tK T p) = 3 := hn.2.2.2.1.mpr c3
        rw [hs3]
        refine Ok_t rfl (Ok_t (ih1 hp4).1 ?_)
        rw [r.2.2.1 (by omega)]
        unfold F_X12_expr_99
        rw [h.1.2.1, (ih1 hp4).2, r.1, hs3]
        refine Ok_t (ih1 hp4).1 (Ok_f (by decide) ?_)
        by_cases c4 : 28 ≤ tK T p
        · rw [if_pos c4] at hk he
          have hvar : f_X12_variableOf (nI (wh (tK T p))) = nI (tK T p - 28) := by
            unfold f_X12_variableOf
            rw [hwh2 c4, if_neg (show ¬ nI (tK T p - 15) ≤ 12 from nI_ge (a := 12) (by omega) (by omega)), show nI (tK T p - 15) - 13 = nI (tK T p - 15 - 13) from pk_sub (b := 13) (by omega)]
            exact congrArg nI (by omega)
          have h0 : 0 ≤ nI (tK T p - 28) := nI_pos' (by omega)
          rw [hvar]
          refine Ok_t h0 ?_
          unfold F_X12_expr_125 F_X12_expr_136
          refine Ok_t h0 (Ok_t h0 ?_)
          exact hem 1 (nI (tK T p - 28)) hk he (by omega) (by omega)
        · rw [if_neg c4] at he
          have hvar : f_X12_variableOf (nI (wh (tK T p))) = -1 := by
            unfold f_X12_variableOf
            rw [if_pos (show nI (wh (tK T p)) ≤ 12 from nI_le (b := 12) (hwh (by omega) c3) (by omega))]
          rw [hvar]
          exact Ok_f m10 (hwr he)
      · have hs3 : ¬ so (tK T p) = 3 := fun z => c3 (hn.2.2.2.1.mp z)
        rw [if_neg (show ¬ 28 ≤ tK T p by omega)] at he
        refine Ok_f (show ¬ nI (so (tK T p)) = 3 from fun z => hs3 ((kq (c := 3) (by omega) (by omega)).mp z)) ?_
        unfold F_X12_expr_99
        rw [h.1.2.1, (ih1 hp4).2, r.1]
        exact Ok_t (ih1 hp4).1 (Ok_f (show ¬ nI (so (tK T p)) = 1 from fun z => hs1 ((kq (c := 1) (by omega) (by omega)).mp z)) (Ok_f m10 (hwr he)))
theorem m_S {T : Tk} {c : Nat} {σ0 : Mm} {g k : Nat → Int32} (hA : AN T σ0) : ∀ f, f ≤ 6 → MU T σ0 c g k (6 - f) 1 (fun q => ((True ∧ tK T q ≠ 8 ∧ tK T q ≠ 8 + 1) ∧ tK T q ≠ 6 ∧ tK T q ≠ 6 + 1)) (xS T (f + 1)) := by
  intro f
  induction f with
  | zero =>
    intro _
    exact m_E hA (Or.inr ⟨rfl, rfl⟩) (sLn_E (by omega) (sLn_U (sLn_S 0))) (m_E hA (Or.inl ⟨rfl, rfl⟩) (sLn_U (sLn_S 0)) (m_U (last := true) (Tl := fun q => tK T q ≠ 6 ∧ tK T q ≠ 7 ∧ tK T q ≠ 8 ∧ tK T q ≠ 9) hA (by omega) (by rfl) (sLn_S 0) (fun q hq => hq) (fun z => by cases z)) (fun z => by omega)) (fun _ q hq => hq.2)
  | succ f ih =>
    intro hf
    refine m_E hA (Or.inr ⟨rfl, rfl⟩) (sLn_E (by omega) (sLn_U (sLn_S (f + 1)))) (m_E hA (Or.inl ⟨rfl, rfl⟩) (sLn_U (sLn_S (f + 1))) (m_U (last := false) (Tl := fun q => ((True ∧ tK T q ≠ 8 ∧ tK T q ≠ 8 + 1) ∧ tK T q ≠ 6 ∧ tK T q ≠ 6 + 1)) hA (by omega) (by rw [decide_eq_false (by omega)]) (sLn_S (f + 1)) (fun q hq => ⟨hq.2.1, hq.2.2, hq.1.2.1, hq.1.2.2⟩) (fun _ => ?_)) (fun z => by omega)) (fun _ q hq => hq.2)
    rw [show 6 - (f + 1) + 1 = 6 - f by omega]
    exact ih (by omega)
/-- the model's expression: the same code, the same FAULT -/
def oE (T : Tk) (σ0 : Mm) (c : Nat) (g k : Nat → Int32) (r : Er Ex) (q : Int32 × Mm) : Prop := match r with
  | .ok a => q.1 = 1 ∧ MX T σ0 c g k [] a.2 a.1 q.2 ∧ mA q.2 3 0 0 58 = nI c
  | .error e => q.1 = 0 ∧ MF T σ0 e q.2
theorem s_exprM {T : Tk} {c p : Nat} {σ0 σ : Mm} {g k : Nat → Int32} (hA : AN T σ0) (h : MK T σ0 p σ) (hc : mA σ 3 0 28 1 = nI c) (hg : ∀ j, j < c → mA σ 3 0 29 (500 + j) = g j ∧ mA σ 3 0 30 (500 + j) = k j) (hcp : c ≤ p) : Ok (F_X12_expr σ) (oE T σ0 c g k (xS T 7 p)) := by
  obtain ⟨h1, h2, h3, h4, h5⟩ := id h
  unfold F_X12_expr F_X12_expr_10 F_X12_expr_15
  rw [show (1 : Int32).toNatClampNeg = 1 from rfl, hc]
  refine Ok_t (by decide) ?_
  generalize hσ1 : setA (setA σ 3 0 0 (upd (mA σ 3 0 0) 58 (nI c))) 3 0 0 (upd (mA (setA σ 3 0 0 (upd (mA σ 3 0 0) 58 (nI c))) 3 0 0) 56 0) = σ1
  have hX : MX T σ0 c g k [] p [] σ1 := by
    subst hσ1
    refine ⟨⟨(h1.A rfl (Or.inl sz0)).A rfl (Or.inl sz0), ?_, h3, h4, ?_⟩, ?_, fun j s hj => (by cases hj), ?_, fun j hj => ?_, fun j z hz => (by cases hz), by simp only [mA_A, mL_A, mP_A, mA_L, mL_L, mP_L, upd_at]; simp⟩
    · simp only [mA_A, mL_A, mP_A, mA_L, mL_L, mP_L, upd_at]; simp; exact h2
    · simp only [mA_A, mL_A, mP_A, mA_L, mL_L, mP_L, upd_at]; simp; exact h5
    · simp only [mA_A, mL_A, mP_A, mA_L, mL_L, mP_L, upd_at]; simp; rfl
    · simp only [mA_A, mL_A, mP_A, mA_L, mL_L, mP_L, upd_at]; simp; exact hc
    · simp only [mA_A, mL_A, mP_A, mA_L, mL_L, mP_L, upd_at]; simp; exact hg j hj
  have key : Ok (F_X12_expr_21 FU (nI 0) 1 1 σ1) (fun q => (oE T σ0 c g k (xS T 7 p) q ∨ ∃ a, xS T 7 p = .ok a ∧ q.1 = 1 ∧ MX T σ0 c g k [] a.2 a.1 q.2)) := by
    refine m_S hA 6 (Nat.le_refl _) FU p [] [] σ1 _ (by show 900 ≤ 1000000 + _; omega) hX (Or.inl rfl) (by simpa using hcp) (fun L q hr n' σ' S' C' hn' hX2 hS' hC' hT => ?_) (fun e hr σ' hF => ?_)
    · obtain ⟨⟨-, t8, t9⟩, t6, t7⟩ := hT
      have hq4 : q ≤ 400 := hX2.1.2.2.1
      obtain ⟨n', rfl⟩ : ∃ n2, n' = n2 + 1 := ⟨n' - 1, by omega⟩
      have := m_exit (n := n') (x := nI 0) hA hX2.1 t6 t7 t8 t9
      have e0 : F_X12_expr_21 (n' + 1) (nI (6 - 6)) 0 1 σ' = F_X12_expr_21 n' (nI 0) 0 0 σ' := this.trans (if_pos (by decide))
      rw [e0]
      obtain ⟨n', rfl⟩ : ∃ n2, n' = n2 + 1 := ⟨n' - 1, by omega⟩
      change Ok (B_X12_expr_21 (F_X12_expr_21 n') _ _ _ _) _
      unfold B_X12_expr_21 F_X12_expr_345
      have hlC : C'.length + S'.length = L.length := by
        have := congrArg List.length hC'
        rw [List.length_append, List.length_append, pops_len] at this
        simpa using this
      obtain ⟨z1, z2, z3, z4⟩ := sLn_S 7 p L q h3 h4 hr
      refine Ok_t rfl (Ok_V (s_reduce (lo := 1) (S := []) (by omega) hX2 hS' (Or.inl rfl) (by show c + C'.length + (0 + _) ≤ _; omega)) (fun τ hτ => Ok_r (Or.inr ⟨(L, q), hr, rfl, ?_⟩)))
      rw [hC'] at hτ
      exact hτ
    · left
      rw [hr]
      exact ⟨rfl, hF⟩
  obtain ⟨q, e1, e2⟩ := key
  refine ⟨q, e1, ?_⟩
  rcases e2 with e2 | ⟨a, ha, e3, e4⟩
  · exact e2
  · rw [ha]
    exact ⟨e3, e4, e4.2.2.2.2.2.2⟩
