/-! the model's COND -/
def SG (σ : Mm) (n : Nat) (x y : Int32) (L : List Op) : Prop := ∃ c : Nat, x = nI c ∧ y = nI (c + L.length) ∧ c + L.length ≤ n ∧ ∀ j o, L[j]? = some o → mA σ 3 0 29 (500 + (c + j)) = nI o.1 ∧ mA σ 3 0 30 (500 + (c + j)) = o.2
theorem SG.mono {σ τ : Mm} {n n' : Nat} {x y : Int32} {L : List Op} (h : SG σ n x y L) (hn : n ≤ n') (he : ∀ j, j < n → mA τ 3 0 29 (500 + j) = mA σ 3 0 29 (500 + j) ∧ mA τ 3 0 30 (500 + j) = mA σ 3 0 30 (500 + j)) : SG τ n' x y L := by
  obtain ⟨c, h1, h2, h3, h4⟩ := h
  refine ⟨c, h1, h2, by omega, fun j o hj => ?_⟩
  have := (List.getElem?_eq_some_iff.mp hj).1
  rw [(he (c + j) (by omega)).1, (he (c + j) (by omega)).2]
  exact h4 j o hj
def LG (σ : Mm) (n l : Nat) (q : Nat × Lt) : Prop := mA σ 3 0 37 (200 + l) = nI q.1 ∧ mA σ 3 0 32 (200 + l) = (if q.2.1 = true then 1 else 0) ∧ mA σ 3 0 33 (200 + l) = cmpM q.2.2.1 ∧ SG σ n (mA σ 3 0 34 (200 + l)) (mA σ 3 0 35 (200 + l)) q.2.2.2.1 ∧ SG σ n (mA σ 3 0 35 (200 + l)) (mA σ 3 0 36 (200 + l)) q.2.2.2.2
theorem LG.mono {σ τ : Mm} {n n' l : Nat} {q : Nat × Lt} (h : LG σ n l q) (hn : n ≤ n') (he : ∀ j, j < n → mA τ 3 0 29 (500 + j) = mA σ 3 0 29 (500 + j) ∧ mA τ 3 0 30 (500 + j) = mA σ 3 0 30 (500 + j)) (hl : ∀ kk, 32 ≤ kk → kk ≤ 37 → mA τ 3 0 kk (200 + l) = mA σ 3 0 kk (200 + l)) : LG τ n' l q := by
  obtain ⟨h1, h2, h3, h4, h5⟩ := h
  unfold LG
  rw [hl 37 (by omega) (by omega), hl 32 (by omega) (by omega), hl 33 (by omega) (by omega), hl 34 (by omega) (by omega), hl 35 (by omega) (by omega), hl 36 (by omega) (by omega)]
  exact ⟨h1, h2, h3, h4.mono hn he, h5.mono hn he⟩
/-- codes so far, LITs so far; below c0 and l0 stands what stood there -/
def MC (T : Tk) (σ0 : Mm) (l0 c0 : Nat) (g k : Nat → Int32) (B : Nat → Nat → Int32) (p : Nat) (F : List (Nat × Lt)) (c : Nat) (σ : Mm) : Prop := MK T σ0 p σ ∧ mA σ 3 0 28 1 = nI c ∧ c0 ≤ c ∧ (∀ j, j < c0 → mA σ 3 0 29 (500 + j) = g j ∧ mA σ 3 0 30 (500 + j) = k j) ∧ mA σ 3 0 31 1 = nI (l0 + F.length) ∧
  (∀ kk j, 32 ≤ kk → kk ≤ 37 → j < l0 → mA σ 3 0 kk (200 + j) = B kk j) ∧ (∀ j q, F[j]? = some q → LG σ c (l0 + j) q) ∧ mA σ 3 0 0 59 = nI l0
theorem MC.fr {T : Tk} {l0 c0 c p p' : Nat} {σ0 σ τ : Mm} {g k : Nat → Int32} {B : Nat → Nat → Int32} {F : List (Nat × Lt)} {W : List (Nat × Nat × Nat)} (h : MC T σ0 l0 c0 g k B p F c σ) (hk : MK T σ0 p' τ) (hf : Fr W σ τ) (hw : (!(inW W 3 0 59) && (noW W 3 28 && (noW W 3 29 && (noW W 3 30 && (noW W 3 31 && (noW W 3 32 && (noW W 3 33 && (noW W 3 34 && (noW W 3 35 && (noW W 3 36 && noW W 3 37)))))))))) = true) : MC T σ0 l0 c0 g k B p' F c τ := by
  simp only [Bool.and_eq_true, Bool.not_eq_true'] at hw
  obtain ⟨w1, w2, w3, w4, w5, w6, w7, w8, w9, w10, w11⟩ := hw
  obtain ⟨-, h2, h3, h4, h5, h6, h7, h8⟩ := h
  have r29 := hf.row (t := 3) (k := 29) 0 w3
  have r30 := hf.row (t := 3) (k := 30) 0 w4
  have rl : ∀ kk, 32 ≤ kk → kk ≤ 37 → mA τ 3 0 kk = mA σ 3 0 kk := by
    intro kk k1 k2
    have : kk = 32 ∨ kk = 33 ∨ kk = 34 ∨ kk = 35 ∨ kk = 36 ∨ kk = 37 := by omega
    rcases this with rfl | rfl | rfl | rfl | rfl | rfl
    · exact hf.row 0 w6
    · exact hf.row 0 w7
    · exact hf.row 0 w8
    · exact hf.row 0 w9
    · exact hf.row 0 w10
    · exact hf.row 0 w11
  refine ⟨hk, ?_, h3, fun j hj => ?_, ?_, fun kk j k1 k2 hj => ?_, fun j q hj => ?_, ?_⟩
  · rw [hf.row (t := 3) (k := 28) 0 w2]; exact h2
  · rw [r29, r30]; exact h4 j hj
  · rw [hf.row (t := 3) (k := 31) 0 w5]; exact h5
  · rw [rl kk k1 k2]; exact h6 kk j k1 k2 hj
  · exact (h7 j q hj).mono (Nat.le_refl _) (fun j _ => by rw [r29, r30]; exact ⟨rfl, rfl⟩) (fun kk k1 k2 => by rw [rl kk k1 k2])
  · rw [hf.fld (t := 3) (k := 0) (f := 59) 0 w1]; exact h8
/-- a cell of the LIT that is being told -/
theorem MC.set {T : Tk} {l0 c0 c p kk : Nat} {σ0 σ : Mm} {g k : Nat → Int32} {B : Nat → Nat → Int32} {F : List (Nat × Lt)} {v : Int32} (h : MC T σ0 l0 c0 g k B p F c σ) (k1 : 32 ≤ kk) (k2 : kk ≤ 37) (hl : l0 + F.length < 200) : MC T σ0 l0 c0 g k B p F c (setA σ 3 0 kk (upd (mA σ 3 0 kk) (200 + (l0 + F.length)) v)) := by
  obtain ⟨⟨a1, a2, a3, a4, a5⟩, h2, h3, h4, h5, h6, h7, h8⟩ := h
  have hz : sz kk = 200 := by
    have : kk = 32 ∨ kk = 33 ∨ kk = 34 ∨ kk = 35 ∨ kk = 36 ∨ kk = 37 := by omega
    rcases this with rfl | rfl | rfl | rfl | rfl | rfl <;> rfl
  have hin : inW W_X12_parses 3 kk (200 + (l0 + F.length)) = true := by
    have : anW W_X12_parses 3 kk = true := by
      have : kk = 32 ∨ kk = 33 ∨ kk = 34 ∨ kk = 35 ∨ kk = 36 ∨ kk = 37 := by omega
      rcases this with rfl | rfl | rfl | rfl | rfl | rfl <;> rfl
    exact anW_in this _
  have e0 : ∀ k' x, k' ≠ kk → mA (setA σ 3 0 kk (upd (mA σ 3 0 kk) (200 + (l0 + F.length)) v)) 3 0 k' x = mA σ 3 0 k' x := fun k' x hk => by rw [mA_A, if_neg (fun z => hk z.2.2)]
  have e1 : ∀ k' x, x ≠ 200 + (l0 + F.length) → mA (setA σ 3 0 kk (upd (mA σ 3 0 kk) (200 + (l0 + F.length)) v)) 3 0 k' x = mA σ 3 0 k' x := fun k' x hx => by
    rw [mA_A]
    by_cases c : k' = kk
    · subst c; rw [if_pos ⟨rfl, rfl, rfl⟩, upd_at, if_neg hx]
    · rw [if_neg (fun z => c z.2.2)]
  refine ⟨⟨a1.A hin (Or.inr ⟨by omega, by omega⟩), ?_, a3, a4, ?_⟩, ?_, h3, fun j hj => ?_, ?_, fun k' j q1 q2 hj => ?_, fun j q hj => ?_, ?_⟩
  · rw [e0 0 7 (by omega)]; exact a2
  · rw [e0 0 8 (by omega), e0 0 9 (by omega)]; exact a5
  · rw [e0 28 1 (by omega)]; exact h2
  · rw [e0 29 _ (by omega), e0 30 _ (by omega)]; exact h4 j hj
  · rw [e0 31 1 (by omega)]; exact h5
  · rw [e1 k' _ (by omega)]; exact h6 k' j q1 q2 hj
  · have := (List.getElem?_eq_some_iff.mp hj).1
    exact (h7 j q hj).mono (Nat.le_refl _) (fun j _ => ⟨e0 29 _ (by omega), e0 30 _ (by omega)⟩) (fun k' _ _ => e1 k' _ (by omega))
  · rw [e0 0 59 (by omega)]; exact h8
theorem s_exprC {T : Tk} {l0 c0 c p : Nat} {σ0 σ : Mm} {g k : Nat → Int32} {B : Nat → Nat → Int32} {F : List (Nat × Lt)} (hA : AN T σ0) (h : MC T σ0 l0 c0 g k B p F c σ) (hcp : c ≤ p) :
    Ok (F_X12_expr σ) (fun q => (match xS T 7 p with
      | .ok a => q.1 = 1 ∧ MC T σ0 l0 c0 g k B a.2 F (c + a.1.length) q.2 ∧ SG q.2 (c + a.1.length) (nI c) (nI (c + a.1.length)) a.1 ∧ mA q.2 3 0 0 58 = nI c ∧ ∀ kk, 32 ≤ kk → kk ≤ 37 → mA q.2 3 0 kk = mA σ 3 0 kk
      | .error e => q.1 = 0 ∧ MF T σ0 e q.2) ∧ ∀ j, j < c → mA q.2 3 0 29 (500 + j) = mA σ 3 0 29 (500 + j) ∧ mA q.2 3 0 30 (500 + j) = mA σ 3 0 30 (500 + j) ∨ ∃ e, xS T 7 p = .error e) := by
  obtain ⟨hK, h2, h3, h4, h5, h6, h7, h8⟩ := id h
  have := (s_exprM hA hK (c := c) (g := fun j => mA σ 3 0 29 (500 + j)) (k := fun j => mA σ 3 0 30 (500 + j)) h2 (fun j _ => ⟨rfl, rfl⟩) hcp).frI fr_X12_expr
  refine this.mono (fun q hq => ?_)
  obtain ⟨hq, f⟩ := hq
  have rl : ∀ kk, 32 ≤ kk → kk ≤ 37 → mA q.2 3 0 kk = mA σ 3 0 kk := by
    intro kk k1 k2
    have : kk = 32 ∨ kk = 33 ∨ kk = 34 ∨ kk = 35 ∨ kk = 36 ∨ kk = 37 := by omega
    rcases this with rfl | rfl | rfl | rfl | rfl | rfl <;> exact f.row 0 rfl
  cases hr : xS T 7 p with
  | error e =>
    rw [hr] at hq
    exact ⟨hq, fun j _ => Or.inr ⟨e, rfl⟩⟩
  | ok a =>
    obtain ⟨L, p2⟩ := a
    rw [hr] at hq
    obtain ⟨q1, ⟨hK2, -, -, hc2, hg2, hC2, -⟩, q3⟩ := hq
    have hst : ∀ j, j < c → mA q.2 3 0 29 (500 + j) = mA σ 3 0 29 (500 + j) ∧ mA q.2 3 0 30 (500 + j) = mA σ 3 0 30 (500 + j) := hg2
    refine ⟨⟨q1, ⟨hK2, hc2, by omega, fun j hj => ?_, ?_, fun kk j k1 k2 hj => ?_, fun j z hj => ?_, ?_⟩, ⟨c, rfl, rfl, Nat.le_refl _, hC2⟩, q3, rl⟩, fun j hj => Or.inl (hst j hj)⟩
    · rw [(hst j (by omega)).1, (hst j (by omega)).2]; exact h4 j hj
    · rw [f.row (t := 3) (k := 31) 0 rfl]; exact h5
    · rw [rl kk k1 k2]; exact h6 kk j k1 k2 hj
    · exact (h7 j z hj).mono (by omega) hst (fun kk k1 k2 => by rw [rl kk k1 k2])
    · rw [f.fld (t := 3) (k := 0) (f := 59) 0 rfl]; exact h8
theorem xLit_3 {T : Tk} {p q : Nat} {l : Lt} (hp : p ≤ 400) (hg : gTk T p) (h : xLit T p = .ok (l, q)) : p + 3 ≤ q ∧ p + l.2.2.1.length + l.2.2.2.length ≤ q := by
  obtain ⟨⟨b, p1⟩, e1, h⟩ := ebd_ok h
  obtain ⟨⟨A, p2⟩, e2, h⟩ := ebd_ok h
  have e2 : xS T 7 p1 = .ok (A, p2) := e2
  have h : xLit2 T b (A, p2) = .ok (l, q) := h
  unfold xLit2 at h
  by_cases c1 : 10 ≤ tK T p2 ∧ tK T p2 ≤ 13
  · rw [if_pos c1] at h
    by_cases c2 : p2 < 400
    · rw [if_pos c2] at h
      obtain ⟨⟨B, p3⟩, e3, h⟩ := ebd_ok h
      have e3 : xS T 7 (p2 + 1) = .ok (B, p3) := e3
      have h : (Except.ok ((b, cmpI (tK T p2), A, B), p3) : Er (Lt × Nat)) = .ok (l, q) := h
      injection h with h
      injection h with h1 h2
      subst h1 h2
      obtain ⟨z1, z2, z3, z4⟩ := xN_ok _ _ _ _ _ hp hg e1
      obtain ⟨y1, y2, y3, y4⟩ := sLn_S 7 _ _ _ z2 z3 e2
      obtain ⟨w1, w2, w3, w4⟩ := sLn_S 7 _ _ _ (by omega) (gTk_s y4 (by omega) (by omega)) e3
      exact ⟨by omega, show p + A.length + B.length ≤ p3 by omega⟩
    · rw [if_neg c2] at h; cases h
  · rw [if_neg c1] at h; cases h
theorem cmpM_I : ∀ k, k < 14 → 10 ≤ k → cmpM (cmpI k) = nI (wh k) := by decide
theorem m_cmp {T : Tk} {σ0 σ : Mm} {p : Nat} {rc : Int32 → Int32 → Mm → Option (Int32 × Mm)} {x y z : Int32} (hA : AN T σ0) (h : MK T σ0 p σ) : F_X12_cond_96 rc x y z σ = F_X12_cond_140 rc x y z (if 10 ≤ tK T p ∧ tK T p ≤ 13 then 1 else 0) σ := by
  have g1 : F_X12_isSign 300 σ = _ := s_isSign (s := 10) (c := 300) hA h (by omega) rfl
  have g2 : F_X12_isSign 301 σ = _ := s_isSign (s := 11) (c := 301) hA h (by omega) rfl
  have g3 : F_X12_isSign 302 σ = _ := s_isSign (s := 13) (c := 302) hA h (by omega) rfl
  have g4 : F_X12_isSign 60 σ = _ := s_isSign (s := 12) (c := 60) hA h (by omega) rfl
  unfold F_X12_cond_96 F_X12_cond_103 F_X12_cond_113 F_X12_cond_123 F_X12_cond_132 F_X12_cond_135
  rw [g1, bnd_s, g2, bnd_s, g3, bnd_s, g4, bnd_s]
  by_cases c1 : tK T p = 10
  · rw [if_pos c1, if_neg ne10, if_pos ⟨by omega, by omega⟩]
  · rw [if_neg c1, if_pos rfl]
    by_cases c2 : tK T p = 11
    · rw [if_pos c2, if_neg ne10, if_pos ⟨by omega, by omega⟩]
    · rw [if_neg c2, if_pos rfl]
      by_cases c3 : tK T p = 13
      · rw [if_pos c3, if_neg ne10, if_pos ⟨by omega, by omega⟩]
      · rw [if_neg c3, if_pos rfl]
        by_cases c4 : tK T p = 12
        · rw [if_pos c4, if_neg ne10, if_pos ⟨by omega, by omega⟩]
        · rw [if_neg c4, if_pos rfl, if_neg (by omega)]
theorem vpB : ∀ b : Bool, vp_nar .boolean (if b = true then 1 else 0) = if b = true then 1 else 0 := by decide
theorem m_nots {T : Tk} {l0 c0 c : Nat} {σ0 : Mm} {g k : Nat → Int32} {B : Nat → Nat → Int32} {F : List (Nat × Lt)} {rc : Int32 → Int32 → Mm → Option (Int32 × Mm)} {x y : Int32} {Q : Int32 × Mm → Prop} (hA : AN T σ0) : ∀ (n m p : Nat) (b : Bool) (σ : Mm), 402 - p < n → 500 ≤ m + p → MC T σ0 l0 c0 g k B p F c σ →
    (∀ b' q, xN T m b p = .ok (b', q) → ∀ τ, MC T σ0 l0 c0 g k B q F c τ → Ok (bnd (F_X12_expr τ) (fun v υ => F_X12_cond_69 rc x y (if b' = true then 1 else 0) v υ)) Q) → (∀ e, xN T m b p = .error e → ∀ τ, MF T σ0 e τ → Q (0, τ)) → Ok (F_X12_cond_32 rc n x y (if b = true then 1 else 0) σ) Q := by
  intro n
  induction n with
  | zero => intro m p b σ h; omega
  | succ n ih =>
    intro m p b σ hn hm h hk he
    have hp4 : p ≤ 400 := h.1.2.2.1
    change Ok (B_X12_cond_32 rc (F_X12_cond_32 rc n) _ _ _ _) _
    unfold B_X12_cond_32
    obtain ⟨m, rfl⟩ : ∃ m', m = m' + 1 := ⟨m - 1, by omega⟩
    rw [xN_s] at hk he
    have g1 : F_X12_isWord 10 σ = _ := s_isWordM (s := 27) (c := 10) hA h.1 (by omega) rfl
    rw [g1, bnd_s]
    unfold F_X12_cond_38
    by_cases c1 : tK T p = 27
    · rw [if_pos c1] at hk he
      rw [if_pos c1]
      refine Ok_f ne10 (Ok_B ((s_pass hA h.1 (by omega) (by omega)).frI fr_X12_pass) (fun v τ hv => ?_))
      obtain ⟨hv, f⟩ := hv
      unfold F_X12_cond_45 F_X12_cond_60
      by_cases c2 : p < 400
      · rw [if_pos c2] at hv hk he
        have hv1 : v = 1 := hv.1
        subst hv1
        have i1 := ih m (p + 1) (!b) τ (by omega) (by omega) (h.fr hv.2 f rfl) hk he
        refine Ok_f ne10 ?_
        cases b with
        | false => exact Ok_t rfl i1
        | true => exact Ok_f ne10 i1
      · rw [if_neg c2] at hv he
        have hv1 : v = 0 := hv.1
        subst hv1
        exact Ok_t rfl (Ok_r (he _ rfl τ hv.2))
    · rw [if_neg c1] at hk
      rw [if_neg c1]
      exact Ok_t rfl (hk b p rfl σ h)
theorem m_lit {T : Tk} {l0 c0 c p n row : Nat} {σ0 σ : Mm} {g k : Nat → Int32} {B : Nat → Nat → Int32} {F : List (Nat × Lt)} {Q : Int32 × Mm → Prop} (hA : AN T σ0) (h : MC T σ0 l0 c0 g k B p F c σ) (hcp : c ≤ p) (hl3 : 3 * (l0 + F.length) ≤ p)
    (hk : ∀ l q, xLit T p = .ok (l, q) → ∀ τ c', MC T σ0 l0 c0 g k B q (F ++ [(row, l)]) c' τ → c' ≤ q → Ok (F_X12_cond_221 (F_X12_cond_14 n) (nI row) τ) Q) (he : ∀ e, xLit T p = .error e → ∀ τ, MF T σ0 e τ → Q (0, τ)) : Ok (F_X12_cond_14 (n + 1) (nI row) 1 σ) Q := by
  have hp4 : p ≤ 400 := h.1.2.2.1
  have hg := h.1.2.2.2.1
  have hl200 : l0 + F.length < 200 := by omega
  change Ok (B_X12_cond_14 (F_X12_cond_14 n) _ _ _) _
  unfold B_X12_cond_14 F_X12_cond_29
  rw [show (1 : Int32).toNatClampNeg = 1 from rfl, h.2.2.2.2.1, show (200 : Int32) + nI (l0 + F.length) = nI (200 + (l0 + F.length)) from nI_add 200 _]
  have ik : inb (nI (200 + (l0 + F.length))) 1000 = true := by
    generalize l0 + F.length = z at *
    clear h hk he hg hA; grind [gI, gB, gC]
  have ck : (nI (200 + (l0 + F.length))).toNatClampNeg = 200 + (l0 + F.length) := nI_clamp (by omega)
  refine Ok_f ne10 (Ok_t (by decide) ?_)
  unfold xLit at hk he
  refine m_nots hA FU XF p false σ (by show _ < 1000000; omega) (by show 500 ≤ 500 + _; omega) h (fun b q hN τ hτ => ?_) (fun e hN τ hF => ?_)
  · rw [hN] at hk he
    obtain ⟨z1, z2, z3, z4⟩ := xN_ok _ _ _ _ _ hp4 hg hN
    refine Ok_B (s_exprC hA hτ (by omega)) (fun v υ hv => ?_)
    obtain ⟨hv, -⟩ := hv
    unfold F_X12_cond_69
    cases hA1 : xS T 7 q with
    | error e =>
      rw [hA1] at hv
      have hv1 : v = 0 := hv.1
      subst hv1
      refine Ok_t rfl (Ok_r (he e ?_ υ hv.2))
      show ebd (xS T 7 q) (fun e1 => xLit2 T b e1) = _
      rw [hA1]; rfl
    | ok a =>
      obtain ⟨A, q1⟩ := a
      rw [hA1] at hv
      obtain ⟨hv1, hM1, hSA, h58, -⟩ := hv
      have hv1 : v = 1 := hv1
      subst hv1
      have hM1 : MC T σ0 l0 c0 g k B q1 F (c + A.length) υ := hM1
      have hSA : SG υ (c + A.length) (nI c) (nI (c + A.length)) A := hSA
      obtain ⟨y1, y2, y3, y4⟩ := sLn_S 7 q A q1 z2 z3 hA1
      have hkk : xLit2 T b (A, q1) = ebd (ebd (.ok (b, q) : Er (Bool × Nat)) (fun a => xS T 7 a.2)) (fun e1 => xLit2 T b e1) := by
        show _ = ebd (xS T 7 q) _
        rw [hA1]; rfl
      have hk2 : ∀ l q', xLit2 T b (A, q1) = .ok (l, q') → ∀ τ c', MC T σ0 l0 c0 g k B q' (F ++ [(row, l)]) c' τ → c' ≤ q' → Ok (F_X12_cond_221 (F_X12_cond_14 n) (nI row) τ) Q := fun l q' hx => hk l q' (by show ebd (xS T 7 q) (fun e1 => xLit2 T b e1) = _; rw [hA1]; exact hx)
      have he2 : ∀ e, xLit2 T b (A, q1) = .error e → ∀ τ, MF T σ0 e τ → Q (0, τ) := fun e hx => he e (by show ebd (xS T 7 q) (fun e1 => xLit2 T b e1) = _; rw [hA1]; exact hx)
      clear hk he hkk
      rw [ck]
      refine Ok_f ne10 (Ok_t ik ?_)
      unfold F_X12_cond_84
      have hM2 := hM1.set (kk := 34) (v := mA υ 3 0 0 58) (by omega) (by omega) hl200
      rw [show (1 : Int32).toNatClampNeg = 1 from rfl, ck, hM2.2.1]
      refine Ok_t (by decide) (Ok_t ik ?_)
      have hM3 := hM2.set (kk := 35) (v := nI (c + A.length)) (by omega) (by omega) hl200
      rw [m_cmp hA hM3.1]
      unfold F_X12_cond_140
      unfold xLit2 at hk2 he2
      by_cases c1 : 10 ≤ tK T q1 ∧ tK T q1 ≤ 13
      · rw [if_pos c1]
        rw [if_pos (show 10 ≤ tK T (A, q1).2 ∧ tK T (A, q1).2 ≤ 13 from c1)] at hk2 he2
        rw [hM3.1.2.1, (ih1 y3).2, (hA.t hM3.1.1 y3 y4).2.2.1 (by omega), ck]
        refine Ok_f ne10 (Ok_t (ih1 y3).1 (Ok_t ik ?_))
        have hM4 := hM3.set (kk := 33) (v := nI (wh (tK T q1))) (by omega) (by omega) hl200
        generalize hσ4 : setA (setA (setA υ 3 0 34 (upd (mA υ 3 0 34) (200 + (l0 + F.length)) (mA υ 3 0 0 58))) 3 0 35 (upd (mA (setA υ 3 0 34 (upd (mA υ 3 0 34) (200 + (l0 + F.length)) (mA υ 3 0 0 58))) 3 0 35) (200 + (l0 + F.length)) (nI (c + A.length)))) 3 0 33 (upd (mA (setA (setA υ 3 0 34 (upd (mA υ 3 0 34) (200 + (l0 + F.length)) (mA υ 3 0 0 58))) 3 0 35 (upd (mA (setA υ 3 0 34 (upd (mA υ 3 0 34) (200 + (l0 + F.length)) (mA υ 3 0 0 58))) 3 0 35) (200 + (l0 + F.length)) (nI (c + A.length)))) 3 0 33) (200 + (l0 + F.length)) (nI (wh (tK T q1)))) = σ4 at *
        have f34 : mA σ4 3 0 34 (200 + (l0 + F.length)) = nI c := by
          subst hσ4; simp only [mA_A, mL_A, mP_A, mA_L, mL_L, mP_L, upd_at]; simp; exact h58
        have f35 : mA σ4 3 0 35 (200 + (l0 + F.length)) = nI (c + A.length) := by
          subst hσ4; simp only [mA_A, mL_A, mP_A, mA_L, mL_L, mP_L, upd_at]; simp
        have f33 : mA σ4 3 0 33 (200 + (l0 + F.length)) = nI (wh (tK T q1)) := by
          subst hσ4; simp only [mA_A, mL_A, mP_A, mA_L, mL_L, mP_L, upd_at]; simp
        have hSA4 : SG σ4 (c + A.length) (nI c) (nI (c + A.length)) A := hSA.mono (Nat.le_refl _) (fun j _ => by
          subst hσ4
          constructor
          · simp only [mA_A, mL_A, mP_A, mA_L, mL_L, mP_L, upd_at]; simp
          · simp only [mA_A, mL_A, mP_A, mA_L, mL_L, mP_L, upd_at]; simp)
        unfold F_X12_cond_168
        refine Ok_B ((s_pass hA hM4.1 (by omega) (by omega)).frI fr_X12_pass) (fun w φ hw => ?_)
        obtain ⟨hw, f⟩ := hw
        have f : Fr W_X12_pass σ4 φ := f
        unfold F_X12_cond_172
        by_cases c2 : q1 < 400
        · rw [if_pos c2] at hw
          rw [if_pos (show (A, q1).2 < 400 from c2)] at hk2 he2
          have hw1 : w = 1 := hw.1
          subst hw1
          have hM5 := hM4.fr hw.2 f rfl
          refine Ok_f ne10 (Ok_B (s_exprC hA hM5 (by omega)) (fun w2 ψ hw2 => ?_))
          obtain ⟨hw2, hst⟩ := hw2
          unfold F_X12_cond_179
          cases hB1 : xS T 7 (q1 + 1) with
          | error e =>
            rw [hB1] at hw2
            have hw3 : w2 = 0 := hw2.1
            subst hw3
            refine Ok_t rfl (Ok_r (he2 e ?_ ψ hw2.2))
            show ebd (xS T 7 (q1 + 1)) _ = _
            rw [hB1]; rfl
          | ok a2 =>
            obtain ⟨B2, q2⟩ := a2
            rw [hB1] at hw2 hst
            obtain ⟨hw3, hM6, hSB, -, hrl⟩ := hw2
            have hw3 : w2 = 1 := hw3
            subst hw3
            have hM6 : MC T σ0 l0 c0 g k B q2 F (c + A.length + B2.length) ψ := hM6
            have hSB : SG ψ (c + A.length + B2.length) (nI (c + A.length)) (nI (c + A.length + B2.length)) B2 := hSB
            have hst : ∀ j, j < c + A.length → mA ψ 3 0 29 (500 + j) = mA φ 3 0 29 (500 + j) ∧ mA ψ 3 0 30 (500 + j) = mA φ 3 0 30 (500 + j) := fun j hj => (hst j hj).resolve_right (fun ⟨e, he⟩ => by cases he)
            obtain ⟨x1, x2, x3, x4⟩ := sLn_S 7 (q1 + 1) B2 q2 (by omega) hw.2.2.2.2.1 hB1
            have hx := hk2 (b, cmpI (tK T q1), A, B2) q2 (by
              show ebd (xS T 7 (q1 + 1)) _ = _
              rw [hB1]; rfl)
            rw [show (1 : Int32).toNatClampNeg = 1 from rfl, ck, hM6.2.1]
            refine Ok_f ne10 (Ok_t (by decide) (Ok_t ik ?_))
            have hM7 := hM6.set (kk := 36) (v := nI (c + A.length + B2.length)) (by omega) (by omega) hl200
            unfold F_X12_cond_196 F_X12_cond_204 F_X12_cond_211
            rw [ck, show (1 : Int32).toNatClampNeg = 1 from rfl]
            refine Ok_t ik (Ok_t ik (Ok_t (by decide) (Ok_t (by decide) ?_)))
            have hM8 := hM7.set (kk := 32) (v := vp_nar .boolean (if b = true then 1 else 0)) (by omega) (by omega) hl200
            have hM9 := hM8.set (kk := 37) (v := nI row) (by omega) (by omega) hl200
            generalize hσ9 : setA (setA (setA ψ 3 0 36 (upd (mA ψ 3 0 36) (200 + (l0 + F.length)) (nI (c + A.length + B2.length)))) 3 0 32 (upd (mA (setA ψ 3 0 36 (upd (mA ψ 3 0 36) (200 + (l0 + F.length)) (nI (c + A.length + B2.length)))) 3 0 32) (200 + (l0 + F.length)) (vp_nar .boolean (if b = true then 1 else 0)))) 3 0 37 (upd (mA (setA (setA ψ 3 0 36 (upd (mA ψ 3 0 36) (200 + (l0 + F.length)) (nI (c + A.length + B2.length)))) 3 0 32 (upd (mA (setA ψ 3 0 36 (upd (mA ψ 3 0 36) (200 + (l0 + F.length)) (nI (c + A.length + B2.length)))) 3 0 32) (200 + (l0 + F.length)) (vp_nar .boolean (if b = true then 1 else 0)))) 3 0 37) (200 + (l0 + F.length)) (nI row)) = σ9 at *
            have rψ : ∀ kk, 33 ≤ kk → kk ≤ 35 → mA ψ 3 0 kk = mA σ4 3 0 kk := by
              intro kk k1 k2
              rw [hrl kk (by omega) (by omega)]
              have : kk = 33 ∨ kk = 34 ∨ kk = 35 := by omega
              rcases this with rfl | rfl | rfl <;> exact f.row 0 rfl
            have r9 : ∀ kk, 33 ≤ kk → kk ≤ 35 → mA σ9 3 0 kk = mA σ4 3 0 kk := by
              intro kk k1 k2
              rw [← rψ kk k1 k2]
              subst hσ9
              rw [mA_R, if_neg (by omega), mA_R, if_neg (by omega), mA_R, if_neg (by omega)]
            have c9 : ∀ kk, (kk = 29 ∨ kk = 30) → mA σ9 3 0 kk = mA ψ 3 0 kk := by
              intro kk k1
              subst hσ9
              rw [mA_R, if_neg (by omega), mA_R, if_neg (by omega), mA_R, if_neg (by omega)]
            have hnew : LG σ9 (c + A.length + B2.length) (l0 + F.length) (row, (b, cmpI (tK T q1), A, B2)) := by
              refine ⟨?_, ?_, ?_, ?_, ?_⟩
              · subst hσ9; simp only [mA_A, mL_A, mP_A, mA_L, mL_L, mP_L, upd_at]; simp
              · subst hσ9; simp only [mA_A, mL_A, mP_A, mA_L, mL_L, mP_L, upd_at]; simp
                exact vpB b
              · rw [r9 33 (by omega) (by omega), f33]; exact (cmpM_I _ (by omega) c1.1).symm
              · rw [r9 34 (by omega) (by omega), r9 35 (by omega) (by omega), f34, f35]
                have s1 : SG φ (c + A.length) (nI c) (nI (c + A.length)) A := hSA4.mono (Nat.le_refl _) (fun j _ => by rw [f.row (t := 3) (k := 29) 0 rfl, f.row (t := 3) (k := 30) 0 rfl]; exact ⟨rfl, rfl⟩)
                exact (s1.mono (Nat.le_refl _) hst).mono (by omega) (fun j _ => by rw [c9 29 (Or.inl rfl), c9 30 (Or.inr rfl)]; exact ⟨rfl, rfl⟩)
              · rw [r9 35 (by omega) (by omega), f35]
                have e36 : mA σ9 3 0 36 (200 + (l0 + F.length)) = nI (c + A.length + B2.length) := by subst hσ9; simp only [mA_A, mL_A, mP_A, mA_L, mL_L, mP_L, upd_at]; simp
                rw [e36]
                exact hSB.mono (Nat.le_refl _) (fun j _ => by rw [c9 29 (Or.inl rfl), c9 30 (Or.inr rfl)]; exact ⟨rfl, rfl⟩)
            refine hx _ (c + A.length + B2.length) ?_ (by omega)
            obtain ⟨⟨a1, a2, a3, a4, a5⟩, b2, b3, b4, b5, b6, b7, b8⟩ := hM9
            have eS : ∀ kk x, kk ≠ 31 → mA (setA σ9 3 0 31 (upd (mA σ9 3 0 31) 1 (mA σ9 3 0 31 1 + 1))) 3 0 kk x = mA σ9 3 0 kk x := fun kk x hkk => by rw [mA_A, if_neg (fun z => hkk z.2.2)]
            refine ⟨⟨a1.A rfl (Or.inl rfl), ?_, a3, a4, ?_⟩, ?_, b3, fun j hj => ?_, ?_, fun kk j k1 k2 hj => ?_, fun j z hj => ?_, ?_⟩
            · rw [eS 0 7 (by omega)]; exact a2
            · rw [eS 0 8 (by omega), eS 0 9 (by omega)]; exact a5
            · rw [eS 28 1 (by omega)]; exact b2
            · rw [eS 29 _ (by omega), eS 30 _ (by omega)]; exact b4 j hj
            · rw [mA_A, if_pos ⟨rfl, rfl, rfl⟩, upd_at, if_pos rfl, b5, nI_1, List.length_append]; rfl
            · rw [eS kk _ (by omega)]; exact b6 kk j k1 k2 hj
            · have hz : LG σ9 (c + A.length + B2.length) (l0 + j) z := by
                rcases getA hj with hj | ⟨rfl, rfl⟩
                · exact b7 j z hj
                · exact hnew
              exact hz.mono (Nat.le_refl _) (fun j _ => ⟨eS 29 _ (by omega), eS 30 _ (by omega)⟩) (fun kk k1 k2 => eS kk _ (by omega))
            · rw [eS 0 59 (by omega)]; exact b8
        · rw [if_neg c2] at hw
          rw [if_neg (show ¬ (A, q1).2 < 400 from c2)] at he2
          have hw1 : w = 0 := hw.1
          subst hw1
          exact Ok_t rfl (Ok_r (he2 _ rfl φ hw.2))
      · rw [if_neg c1]
        rw [if_neg (show ¬ (10 ≤ tK T (A, q1).2 ∧ tK T (A, q1).2 ≤ 13) from c1)] at he2
        refine Ok_t rfl (Ok_B (s_wrong hA hM3.1 (x := 1) (Or.inl rfl)) (fun w φ hw => ?_))
        unfold F_X12_cond_152
        have hw1 : w = 0 := hw.1
        subst hw1
        exact Ok_t (by decide) (Ok_r (he2 _ rfl φ hw.2))
  · exact he e (by rw [hN]; rfl) τ hF
