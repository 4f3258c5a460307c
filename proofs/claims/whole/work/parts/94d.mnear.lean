/-! the model: near, NAMES -/
theorem m_near {T : Tk} {p : Nat} {σ0 σ : Mm} {X : Xt} (hA : AN T σ0) (h : MRX T σ0 X p σ) (hk : tK T p = 22) : Ok (bnd (F_X12_pass σ) (fun v τ => F_X12_tell_107 v τ)) (oTm T σ0 (tNe0 T X p)) := by
  obtain ⟨c, l, hcp, hlp, hK, hR⟩ := h
  have c1 : (1 : Int32).toNatClampNeg = 1 := rfl
  unfold tNe0
  refine m_pas hA hK hk (by omega) (fun τ1 t1e K1 f1 => ?_) (fun e τ he hF => ?_)
  · unfold F_X12_tell_107
    refine Ok_f ne10 ?_
    have f1 : Fr [(3, 0, 7), (3, 0, 8), (3, 0, 9)] σ τ1 := f1
    have B1 : mBl T τ1 (p + 1) (qB X) := ((hR.2.2.2.2.2.2.2.1).fr f1 rfl).mono (by omega)
    refine m_int (m := 20) hA K1 B1 (by omega) (fun τ2 t2e K2 v2 B2 f2 => ?_) (fun e τ he hF => ?_)
    · unfold F_X12_tell_117 F_X12_tell_132
      refine Ok_f ne10 (Ok_t (by decide) ?_)
      rw [c1, v2]
      generalize hw : setA τ2 3 0 7 (upd (mA τ2 3 0 7) 1 (nI (tV T (p + 1)))) = w
      have g : Fr [(3, 7, 999)] τ2 w := by subst hw; exact Fr_r.A rfl
      have G : Fr [(3, 0, 7), (3, 0, 8), (3, 0, 9), (3, 0, 10), (3, 0, 11), (3, 0, 55), (3, 7, 999)] σ w := ((f1.sub rfl).trans (f2.sub rfl)).trans (g.sub rfl)
      have hts : tks T [22, 3] p = .ok (p + 2) := by
        show ebd (t1 T 22 p) (fun q => ebd (t1 T 3 q) (fun q => .ok q)) = _
        rw [t1e, ebd_k, t2e]; rfl
      rw [hts, ebd_k]
      obtain ⟨r1, r2, r3, r4, r5, r6, r7, r8, r9, r10⟩ := hR
      refine Ok_r ⟨rfl, c, l, by show c ≤ p + 2; omega, by show 3 * l ≤ p + 2; omega, K2.fr (by subst hw; exact K2.1.A rfl (Or.inr ⟨by decide, by decide⟩)) g rfl, ⟨?_, ?_, ?_, ?_, ?_, ?_⟩, r2.fr G rfl, r3.fr G rfl, r4.fr G rfl, r5.fr G rfl, r6.fr G rfl, r7.fr G rfl, B2.fr g rfl, ?_, ?_⟩
      · show mA w 3 0 7 1 = nI (tV T (p + 1))
        subst hw; simp only [mA_A, mL_A, mP_A, mA_L, mL_L, mP_L, upd_at]; simp
      · rw [G.row (t := 3) (k := 8) 0 rfl]; exact r1.2.1
      · rw [G.row (t := 3) (k := 14) 0 rfl]; exact r1.2.2.1
      · rw [G.row (t := 3) (k := 17) 0 rfl]; exact r1.2.2.2.1
      · rw [G.row (t := 3) (k := 21) 0 rfl]; exact r1.2.2.2.2.1
      · rw [G.row (t := 3) (k := 25) 0 rfl]; exact r1.2.2.2.2.2
      · rw [G.row (t := 3) (k := 28) 0 rfl]; exact r9
      · rw [G.row (t := 3) (k := 31) 0 rfl]; exact r10
    · unfold F_X12_tell_117
      refine Ok_t rfl (Ok_r ?_)
      have hts : tks T [22, 3] p = .error e := by
        show ebd (t1 T 22 p) (fun q => ebd (t1 T 3 q) (fun q => .ok q)) = _
        rw [t1e, ebd_k, he]; rfl
      rw [hts]; exact ⟨rfl, hF⟩
  · unfold F_X12_tell_107
    refine Ok_t rfl (Ok_r ?_)
    have hts : tks T [22, 3] p = .error e := by
      show ebd (t1 T 22 p) _ = _
      rw [he]; rfl
    rw [hts]; exact ⟨rfl, hF⟩
/-- a NAME's TOKEN, known: is it told twice? -/
theorem tM_iff {T : Tk} (hT : TW T) {x y : Nat} (hx : gTk T x) (hy : gTk T y) (kx : tK T x = 2) (ky : tK T y = 2) : lg_cmp (lN (tM T x)) (lN (tM T y)) = 0 ↔ tC T x = tC T y := by
  rw [lg_cmp_eq, hT.2.2.2.2.1 x y hx hy kx ky]
  have b : ∀ z, tM T z < 2 ^ 63 := fun z => Nat.lt_trans (hT.2.2.2.2.2 z).2 (by decide)
  exact pk_lEQ (b x) (b y)
def nkX (T : Tk) (X : Xt) : Prop := ∀ (t : Nat) (e : Nat × Int32), (qL X)[t]? = some e → tK T e.1 = 2 ∧ gTk T e.1
theorem s_again {T : Tk} {y p : Nat} {σ0 σ : Mm} {e : Nat × Nat} (hA : AN T σ0) (h : MK T σ0 p σ) (hB : mBl T σ (y + 1) (some e)) (he : e.2 = y → e.1 ≤ 3) (hy : y ≤ 400) (hg : gTk T y) : F_X12_tells 3 (nI y) σ = some σ := by
  obtain ⟨b1, b2, b3, b4, b5⟩ := hB
  have hP := hA.1.2.1 y
  have hPe := hA.1.2.1 e.2
  unfold F_X12_tells
  rw [if_pos (ih1 hy).1, (ih1 hy).2, (hA.t h.1 hy hg).2.1, b1, b2, if_neg (nI_ne0 b3 (by omega))]
  by_cases c : e.2 = y
  · rw [c, if_neg (nI_nlt (Nat.le_refl _) (by omega)), if_pos rfl, if_neg (show ¬ (3 : Int32) < nI e.1 from nI_nlt (a := 3) (he c) (by omega))]
  · have hlt : tP T e.2 < tP T y := hA.1.2.2.1 _ _ (by omega) hg
    rw [if_pos (nI_lt hlt (by omega))]
theorem nm_17 {T : Tk} {p y : Nat} {v : Int32} {σ0 : Mm} {X : Xt} (hA : AN T σ0) (hX : nkX T X) (hL : (qL X).length < 20) (hy : y ≤ 400) (hgy : gTk T y) (hky : tK T y = 2) : ∀ (n t : Nat) (σ : Mm) (B : Option (Nat × Nat)), 21 - t < n → t ≤ (qL X).length → MK T σ0 p σ → mNa T σ X → mBl T σ (y + 1) B →
    (B = none ∨ ∃ e, B = some e ∧ (e.2 = y → e.1 ≤ 3)) →
    Ok (F_X12_names_17 n v (nI y) (nI t) σ) (fun q => q.1 = 1 ∧ MK T σ0 p q.2 ∧ mNa T q.2 (qT X, qD X, qH X, qS X, qR X, qN X, qL X ++ [(y, v)], qB X) ∧ mBl T q.2 (y + 1) (bla B (((qL X).drop t).any (fun e => decide (tC T e.1 = tC T y)) = true) 3 y)) := by
  intro n
  induction n with
  | zero => intro t σ B h; omega
  | succ n ih =>
    intro t σ B hn ht hK hN hB hB0
    change Ok (B_X12_names_17 (F_X12_names_17 n) _ _ _ _) _
    unfold B_X12_names_17
    rw [hN.1]
    by_cases c : (qL X).length ≤ t
    · have e : t = (qL X).length := by omega
      subst e
      have il : inb (nI (qL X).length) 20 = true := by
        generalize (qL X).length = z at *
        clear hA hX hK hN hB hB0 ih; grind [gI, gB, gC]
      refine Ok_t (nI_le c (by omega)) (Ok_t (ih1 hy).1 (Ok_t il ?_))
      rw [(ih1 hy).2, nI_clamp (by omega), (hA.t hK.1 hy hgy).2.2.2.2 hky]
      unfold F_X12_names_68 F_X12_names_78 F_X12_names_88
      generalize hw : setL σ 3 0 43 (vp_updL (mL σ 3 0 43) (qL X).length (lN (tM T y))) = w
      have g : Fr [(3, 43, 999)] σ w := by subst hw; exact Fr_r.LL rfl
      have a43 : ∀ t, mL w 3 0 43 t = if t = (qL X).length then lN (tM T y) else mL σ 3 0 43 t := by
        intro t; subst hw; rw [mL_L, if_pos ⟨rfl, rfl, rfl⟩]; rfl
      have e49 : mA w 3 0 0 49 = nI (qL X).length := by rw [g.fld (t := 3) (k := 0) (f := 49) 0 rfl]; exact hN.1
      rw [e49, nI_clamp (by omega)]
      refine Ok_t il ?_
      generalize hw1 : setA w 3 0 44 (upd (mA w 3 0 44) (qL X).length v) = w1
      have g1 : Fr [(3, 44, 999)] w w1 := by subst hw1; exact Fr_r.A rfl
      have a44 : ∀ t, mA w1 3 0 44 t = if t = (qL X).length then v else mA w 3 0 44 t := by
        intro t; subst hw1; simp only [mA_A, mL_A, mP_A, mA_L, mL_L, mP_L, upd_at]; simp
      have e49' : mA w1 3 0 0 49 = nI (qL X).length := by rw [g1.fld (t := 3) (k := 0) (f := 49) 0 rfl]; exact e49
      rw [e49', nI_1]
      generalize hw2 : setA w1 3 0 0 (upd (mA w1 3 0 0) 49 (nI ((qL X).length + 1))) = w2
      have g2 : Fr [(3, 0, 49)] w1 w2 := by subst hw2; exact Fr_r.A rfl
      have G : Fr [(3, 43, 999), (3, 44, 999), (3, 0, 49)] σ w2 := ((g.sub rfl).trans (g1.sub rfl)).trans (g2.sub rfl)
      have hI : MI σ0 w2 := by
        subst hw2; subst hw1; subst hw
        exact ((hK.1.L rfl).A rfl (Or.inl rfl)).A rfl (Or.inl sz0)
      have hd : ((qL X).drop (qL X).length).any (fun e => decide (tC T e.1 = tC T y)) = false := by rw [List.drop_length]; rfl
      rw [hd]
      have hb : bla B (false = true) 3 y = B := if_neg (by decide)
      rw [hb]
      refine Ok_r ⟨rfl, hK.fr hI G rfl, ⟨?_, fun t e he => ?_⟩, hB.fr G rfl⟩
      · subst hw2
        show _ = nI (qL X ++ [(y, v)]).length
        rw [List.length_append]; simp only [mA_A, mL_A, mP_A, mA_L, mL_L, mP_L, upd_at]; simp
      · rw [g2.rowL (t := 3) (k := 43) 0 rfl, g1.rowL (t := 3) (k := 43) 0 rfl, g2.row (t := 3) (k := 44) 0 rfl, a43, a44]
        rcases getA (show (qL X ++ [(y, v)])[t]? = some e from he) with hj | ⟨rfl, rfl⟩
        · have hlt := (List.getElem?_eq_some_iff.mp hj).1
          rw [if_neg (by omega), if_neg (by omega), g.row (t := 3) (k := 44) 0 rfl]
          exact hN.2 t e hj
        · rw [if_pos rfl, if_pos rfl]; exact ⟨rfl, rfl⟩
    · have hlt : t < (qL X).length := by omega
      have it : inb (nI t) 20 = true := by
        clear hA hX hK hN hB hB0 ih; grind [gI, gB, gC]
      refine Ok_f (fun z => nI_ge (a := t) (b := (qL X).length) hlt (by omega) z) (Ok_t it (Ok_t (ih1 hy).1 ?_))
      have hget : (qL X)[t]? = some (qL X)[t] := List.getElem?_eq_getElem hlt
      generalize he : (qL X)[t] = e at hget
      obtain ⟨ke, ge⟩ := hX t e hget
      rw [nI_clamp (by omega), (ih1 hy).2, (hN.2 t e hget).1, (hA.t hK.1 hy hgy).2.2.2.2 hky]
      have hdr : (qL X).drop t = e :: (qL X).drop (t + 1) := by rw [← he]; exact List.drop_eq_getElem_cons hlt
      unfold F_X12_names_47
      rw [nI_1, hdr, List.any_cons]
      by_cases c2 : tC T e.1 = tC T y
      · refine Ok_t ((tM_iff hA.1 ge hgy ke hky).mpr c2) ?_
        have hd : decide (tC T e.1 = tC T y) = true := decide_eq_true c2
        rw [hd, Bool.true_or]
        have e1 : bla B (true = true) 3 y = addB B 3 y := if_pos rfl
        rw [e1]
        have go : ∀ τ B', MK T σ0 p τ → mNa T τ X → mBl T τ (y + 1) (some B') → (B'.2 = y → B'.1 ≤ 3) → Ok (F_X12_names_17 n v (nI y) (nI (t + 1)) τ) (fun q => q.1 = 1 ∧ MK T σ0 p q.2 ∧ mNa T q.2 (qT X, qD X, qH X, qS X, qR X, qN X, qL X ++ [(y, v)], qB X) ∧ mBl T q.2 (y + 1) (some B')) := by
          intro τ B' k1 k2 k3 k4
          have := ih (t + 1) τ (some B') (by omega) (by omega) k1 k2 k3 (Or.inr ⟨B', rfl, k4⟩)
          have e2 : ∀ q : Prop, ∀ [Decidable q], bla (some B') q 3 y = some B' := by
            intro q _; unfold bla addB; split <;> rfl
          rw [e2] at this
          exact this
        rcases hB0 with rfl | ⟨e', rfl, h3⟩
        · refine Ok_V (s_tells (x := y) (c := 3) hA hK (show mBl T σ y none from hB) ⟨by omega, by omega⟩ hy hgy) (fun τ hτ => ?_)
          have e2 : bla none True 3 y = some (3, y) := if_pos trivial
          rw [e2] at hτ
          exact go τ (3, y) hτ.1 (hN.fr hτ.2.2 rfl) hτ.2.1 (fun _ => Nat.le_refl _)
        · rw [s_again hA hK hB h3 hy hgy, bnv_s]
          exact go σ e' hK hN hB h3
      · refine Ok_f (fun z => c2 ((tM_iff hA.1 ge hgy ke hky).mp z)) ?_
        have hd : decide (tC T e.1 = tC T y) = false := decide_eq_false c2
        rw [hd, Bool.false_or]
        exact ih (t + 1) σ B (by omega) (by omega) hK hN hB hB0
