/-! TELLS: what a text has told so far -/
abbrev Xt : Type := List Nat × List (Nat × Nat) × List Nat × List (Nat × Int32 × List Op) × List Cd × Int32 × List (Nat × Int32) × Option (Nat × Nat)
/-- things (their first TOKENS), doors (from, to), hills, PLACES (NAME's TOKEN, span, E), RULES, near, NAMES (TOKEN, thing or -1), the first blamed (FAULT, TOKEN) -/
abbrev qT (X : Xt) : List Nat := X.1
abbrev qD (X : Xt) : List (Nat × Nat) := X.2.1
abbrev qH (X : Xt) : List Nat := X.2.2.1
abbrev qS (X : Xt) : List (Nat × Int32 × List Op) := X.2.2.2.1
abbrev qR (X : Xt) : List Cd := X.2.2.2.2.1
abbrev qN (X : Xt) : Int32 := X.2.2.2.2.2.1
abbrev qL (X : Xt) : List (Nat × Int32) := X.2.2.2.2.2.2.1
abbrev qB (X : Xt) : Option (Nat × Nat) := X.2.2.2.2.2.2.2
def addB (B : Option (Nat × Nat)) (c x : Nat) : Option (Nat × Nat) := match B with
  | none => some (c, x)
  | some e => some e
def bla (B : Option (Nat × Nat)) (q : Prop) [Decidable q] (c x : Nat) : Option (Nat × Nat) := if q then addB B c x else B
def tks (T : Tk) : List Nat → Nat → Er Nat
  | [], p => .ok p
  | c :: cs, p => ebd (t1 T c p) (fun q => tks T cs q)
/-- is it a NAME told already; which thing has it -/
def nmd (T : Tk) (X : Xt) (y : Nat) : Bool := (qL X).any (fun e => decide (tC T e.1 = tC T y))
def fC (T : Tk) : List Nat → Nat → Nat → Int32
  | [], _, _ => -1
  | x :: r, s, y => if tC T (x + 1) = tC T y then nI s else fC T r (s + 1) y
def tkn (T : Tk) (X : Xt) (p : Nat) : Bool := (qT X).any (fun x => decide (tV T (x + 2) = tV T (p + 2) ∧ tV T (x + 3) = tV T (p + 3)))
def addT (T : Tk) (X : Xt) (p : Nat) : Xt := (qT X ++ [p], qD X, qH X, qS X, qR X, qN X, qL X ++ [(p + 1, nI (qT X).length)],
  bla (bla (bla (bla (qB X) (nmd T X (p + 1) = true) 3 (p + 1)) (999 < tV T (p + 2)) 5 (p + 2)) (999 < tV T (p + 3)) 5 (p + 3)) (tkn T X p = true) 3 (p + 3))
def tTh (T : Tk) (X : Xt) (p : Nat) : Er (Xt × Nat) := if 14 ≤ (qT X).length then .error (2, p) else ebd (tks T [tK T p, 2, 3, 3, 3, 4] p) (fun q => .ok (addT T X p, q))
def addH (T : Tk) (X : Xt) (p : Nat) : Xt := (qT X, qD X, qH X ++ [p], qS X, qR X, qN X, qL X,
  bla (bla (bla (qB X) (359 < tV T (p + 1)) 5 (p + 1)) (359 < tV T (p + 2)) 5 (p + 2)) (20 < tV T (p + 3)) 5 (p + 3))
def tHi (T : Tk) (X : Xt) (p : Nat) : Er (Xt × Nat) := if 12 ≤ (qH X).length then .error (2, p) else ebd (tks T [19, 3, 3, 3, 4] p) (fun q => .ok (addH T X p, q))
def addN (T : Tk) (X : Xt) (p : Nat) : Xt := (qT X, qD X, qH X, qS X, qR X, nI (tV T (p + 1)), qL X, bla (qB X) (20 < tV T (p + 1)) 5 (p + 1))
def tNe (T : Tk) (X : Xt) (p : Nat) : Er (Xt × Nat) := ebd (tks T [22, 3, 4] p) (fun q => .ok (addN T X p, q))
/-- a DOOR: (99, 99) where it is none -/
def doorOf (a c : Int32) : Nat × Nat := if a = -1 then (99, 99) else if c = -1 then (99, 99) else if a = c then (99, 99) else (a.toNatClampNeg, c.toNatClampNeg)
def addD (T : Tk) (X : Xt) (p : Nat) : Xt := (qT X, qD X ++ [doorOf (fC T (qT X) 0 (p + 1)) (fC T (qT X) 0 (p + 2))], qH X, qS X, qR X, qN X, qL X,
  if fC T (qT X) 0 (p + 1) = -1 then bla (qB X) True 4 (p + 1) else if fC T (qT X) 0 (p + 2) = -1 then bla (qB X) True 4 (p + 2) else bla (qB X) (fC T (qT X) 0 (p + 1) = fC T (qT X) 0 (p + 2)) 5 (p + 2))
def tDo (T : Tk) (X : Xt) (p : Nat) : Er (Xt × Nat) := if 8 ≤ (qD X).length then .error (2, p) else ebd (tks T [18, 2, 2, 4] p) (fun q => .ok (addD T X p, q))
def addS (T : Tk) (X : Xt) (p : Nat) (sp : Bool) (L : List Op) : Xt := (qT X, qD X, qH X, qS X ++ [(p + 1, if sp = true then nI (tV T (p + 3)) else 0, L)], qR X, qN X, qL X ++ [(p + 1, -1)],
  if sp = true then bla (bla (qB X) (nmd T X (p + 1) = true) 3 (p + 1)) (20 < tV T (p + 3)) 5 (p + 3) else bla (qB X) (nmd T X (p + 1) = true) 3 (p + 1))
def tSk (T : Tk) (X : Xt) (p : Nat) : Er (Xt × Nat) := if 5 ≤ (qS X).length then .error (2, p) else
  ebd (tks T [20, 2] p) (fun p2 => ebd (if tK T p2 = 21 then ebd (tks T [21, 3] p2) (fun q => .ok (true, q)) else .ok (false, p2)) (fun a =>
    ebd (t1 T 5 a.2) (fun q => ebd (xS T 7 q) (fun e => ebd (t1 T 4 e.2) (fun q2 => .ok (addS T X p a.1 e.1, q2))))))
def addR (X : Xt) (c : Cd) : Xt := (qT X, qD X, qH X, qS X, qR X ++ [c], qN X, qL X, qB X)
def tRu (T : Tk) (X : Xt) (p : Nat) : Er (Xt × Nat) := if 6 ≤ (qR X).length then .error (2, p) else
  ebd (tks T [23, 24] p) (fun p2 => ebd (xCond T p2) (fun a => ebd (t1 T 4 a.2) (fun q => .ok (addR X a.1, q))))
/-- one TELL -/
def tAll (T : Tk) (X : Xt) (p : Nat) : Er (Xt × Nat) := if tK T p = 16 ∨ tK T p = 17 then tTh T X p else if tK T p = 18 then tDo T X p else if tK T p = 19 then tHi T X p else if tK T p = 20 then tSk T X p else if tK T p = 22 then tNe T X p else if tK T p = 23 then tRu T X p else .error (1, p)
/-- all of a text -/
def tTx (T : Tk) : Nat → Xt → Nat → Er Xt
  | 0, _, p => .error (1, p)
  | n + 1, X, p => if tK T p = 0 then .ok X else ebd (tAll T X p) (fun a => tTx T n a.1 a.2)
/-! how the class holds it -/
def segU (σ : Mm) (i u p : Nat) (L : List (Int32 × Int32)) : Prop := ∃ c : Nat, mA σ 1 i 13 p = nI c ∧ mA σ 1 i 14 p = nI (c + L.length) ∧ c + L.length ≤ u ∧ ∀ j q, L[j]? = some q → mA σ 1 i 11 (c + j) = q.1 ∧ (q.1 = 3 → mA σ 1 i 12 (c + j) = q.2)
def cNm (σ : Mm) (i : Nat) (X : Xt) : Prop := mA σ 1 i 0 0 = qN X ∧ mA σ 1 i 0 1 = nI (qT X).length ∧ mA σ 1 i 0 6 = nI (qD X).length ∧ mA σ 1 i 0 8 = nI (qH X).length ∧ mA σ 1 i 0 12 = nI (qS X).length ∧ mA σ 1 i 0 14 = nI (qR X).length
def cTh (T : Tk) (σ : Mm) (i : Nat) (X : Xt) : Prop := ∀ t x, (qT X)[t]? = some x → mA σ 1 i 1 t = nI (tV T (x + 2)) ∧ mA σ 1 i 2 t = nI (tV T (x + 3)) ∧ mA σ 1 i 3 t = nI (tV T (x + 4)) ∧ mA σ 1 i 4 t = (if tK T x = 16 then 1 else 0) ∧ mL σ 0 0 13 t = lN (tC T (x + 1))
def cDo (σ : Mm) (i : Nat) (X : Xt) : Prop := ∀ a b, a < 14 → b < 14 → (bt (mA σ 1 i 5 a) b = true ↔ (a, b) ∈ qD X)
def cHi (T : Tk) (σ : Mm) (i : Nat) (X : Xt) : Prop := ∀ t x, (qH X)[t]? = some x → mA σ 1 i 6 t = nI (tV T (x + 1)) ∧ mA σ 1 i 7 t = nI (tV T (x + 2)) ∧ mA σ 1 i 8 t = nI (tV T (x + 3))
def cSk (T : Tk) (σ : Mm) (i u : Nat) (X : Xt) : Prop := ∀ t s, (qS X)[t]? = some s → mA σ 1 i 9 t = s.2.1 ∧ mL σ 0 0 14 t = lN (tC T s.1) ∧ segU σ i u t (encE s.2.2)
def cRu (σ : Mm) (i u : Nat) (X : Xt) : Prop := ∀ r c, (qR X)[r]? = some c → segU σ i u (5 + r) (encC c)
def cBl (T : Tk) (σ : Mm) (B : Option (Nat × Nat)) : Prop := match B with
  | none => mA σ 0 0 12 5 = 0 ∧ mA σ 0 0 12 6 = -1
  | some e => mA σ 0 0 12 5 = nI e.1 ∧ mA σ 0 0 12 6 = nI (tP T e.2) ∧ 1 ≤ e.1 ∧ e.1 ≤ 5
theorem cBl.fr {T : Tk} {σ τ : Mm} {B : Option (Nat × Nat)} {W : List (Nat × Nat × Nat)} (h : cBl T σ B) (hf : Fr W σ τ) (hw : (!(inW W 0 12 5) && !(inW W 0 12 6)) = true) : cBl T τ B := by
  simp only [Bool.and_eq_true, Bool.not_eq_true'] at hw
  unfold cBl
  rw [hf.fld (t := 0) (k := 12) (f := 5) 0 hw.1, hf.fld (t := 0) (k := 12) (f := 6) 0 hw.2]
  exact h
theorem cTh.fr {T : Tk} {σ τ : Mm} {i : Nat} {X : Xt} {W : List (Nat × Nat × Nat)} (h : cTh T σ i X) (hf : Fr W σ τ) (hw : (noW W 1 1 && (noW W 1 2 && (noW W 1 3 && (noW W 1 4 && noW W 0 13)))) = true) : cTh T τ i X := by
  simp only [Bool.and_eq_true] at hw
  unfold cTh
  rw [hf.row (t := 1) (k := 1) i hw.1, hf.row (t := 1) (k := 2) i hw.2.1, hf.row (t := 1) (k := 3) i hw.2.2.1, hf.row (t := 1) (k := 4) i hw.2.2.2.1, hf.rowL (t := 0) (k := 13) 0 hw.2.2.2.2]
  exact h
theorem cDo.fr {σ τ : Mm} {i : Nat} {X : Xt} {W : List (Nat × Nat × Nat)} (h : cDo σ i X) (hf : Fr W σ τ) (hw : noW W 1 5 = true) : cDo τ i X := by
  unfold cDo
  rw [hf.row (t := 1) (k := 5) i hw]
  exact h
theorem cHi.fr {T : Tk} {σ τ : Mm} {i : Nat} {X : Xt} {W : List (Nat × Nat × Nat)} (h : cHi T σ i X) (hf : Fr W σ τ) (hw : (noW W 1 6 && (noW W 1 7 && noW W 1 8)) = true) : cHi T τ i X := by
  simp only [Bool.and_eq_true] at hw
  unfold cHi
  rw [hf.row (t := 1) (k := 6) i hw.1, hf.row (t := 1) (k := 7) i hw.2.1, hf.row (t := 1) (k := 8) i hw.2.2]
  exact h
theorem segU.fr {σ τ : Mm} {i u p : Nat} {L : List (Int32 × Int32)} {W : List (Nat × Nat × Nat)} (h : segU σ i u p L) (hf : Fr W σ τ) (hw : (noW W 1 11 && (noW W 1 12 && (noW W 1 13 && noW W 1 14))) = true) : segU τ i u p L := by
  simp only [Bool.and_eq_true] at hw
  unfold segU
  rw [hf.row (t := 1) (k := 11) i hw.1, hf.row (t := 1) (k := 12) i hw.2.1, hf.row (t := 1) (k := 13) i hw.2.2.1, hf.row (t := 1) (k := 14) i hw.2.2.2]
  exact h
theorem cSk.fr {T : Tk} {σ τ : Mm} {i u : Nat} {X : Xt} {W : List (Nat × Nat × Nat)} (h : cSk T σ i u X) (hf : Fr W σ τ) (hw : (noW W 1 9 && (noW W 0 14 && (noW W 1 11 && (noW W 1 12 && (noW W 1 13 && noW W 1 14))))) = true) : cSk T τ i u X := by
  have hw2 := hw
  simp only [Bool.and_eq_true] at hw
  intro t s hs
  obtain ⟨h1, h2, h3⟩ := h t s hs
  rw [hf.row (t := 1) (k := 9) i hw.1, hf.rowL (t := 0) (k := 14) 0 hw.2.1]
  exact ⟨h1, h2, h3.fr hf (by simp only [Bool.and_eq_true]; exact hw.2.2)⟩
theorem cRu.fr {σ τ : Mm} {i u : Nat} {X : Xt} {W : List (Nat × Nat × Nat)} (h : cRu σ i u X) (hf : Fr W σ τ) (hw : (noW W 1 11 && (noW W 1 12 && (noW W 1 13 && noW W 1 14))) = true) : cRu τ i u X := fun r c hc => (h r c hc).fr hf hw
theorem cNm.fr {σ τ : Mm} {i : Nat} {X : Xt} {W : List (Nat × Nat × Nat)} (h : cNm σ i X) (hf : Fr W σ τ) (hw : noW W 1 0 = true) : cNm τ i X := by
  unfold cNm
  rw [hf.row (t := 1) (k := 0) i hw]
  exact h
/-- all of it, u numbers of code used -/
def CR (T : Tk) (i u : Nat) (X : Xt) (σ : Mm) : Prop := cNm σ i X ∧ cTh T σ i X ∧ cDo σ i X ∧ cHi T σ i X ∧ cSk T σ i u X ∧ cRu σ i u X ∧ cBl T σ (qB X) ∧ mA σ 1 i 10 0 = nI u
def CRX (T : Tk) (i : Nat) (σ0 : Mm) (X : Xt) (p : Nat) (σ : Mm) : Prop := ∃ u, u ≤ p ∧ CK T i σ0 p σ ∧ CR T i u X σ
/-- what a TELL leaves -/
def oTl (T : Tk) (i : Nat) (σ0 : Mm) (r : Er (Xt × Nat)) (τ : Mm) : Prop := match r with
  | .ok a => CRX T i σ0 a.1 a.2 τ
  | .error e => CF T i σ0 e τ
/-- takes and blames leave all but the blame -/
theorem CR.fr {T : Tk} {i u : Nat} {X : Xt} {σ τ : Mm} {W : List (Nat × Nat × Nat)} (h : CR T i u X σ) (hf : Fr W σ τ) (hw : sbW W [(0, 12, 0), (0, 12, 1), (0, 12, 4)] = true) : CR T i u X τ := by
  have f := hf.sub hw
  obtain ⟨h1, h2, h3, h4, h5, h6, h7, h8⟩ := h
  exact ⟨h1.fr f rfl, h2.fr f rfl, h3.fr f rfl, h4.fr f rfl, h5.fr f rfl, h6.fr f rfl, h7.fr f rfl, by rw [f.row (t := 1) (k := 10) i rfl]; exact h8⟩
theorem s_tk {T : Tk} {i p c : Nat} {σ0 σ : Mm} {f : Int32 → Mm → Option Mm} {Q : Mm → Prop} (hA : AM T i σ0) (h : CK T i σ0 p σ) (hu : CU i σ) (hc : c ≤ 40) (hc2 : 2 ≤ c) (h1 : ∀ τ, t1 T c p = .ok (p + 1) → CK T i σ0 (p + 1) τ → Fr W_X5_take σ τ → Ok (f 1 τ) Q) (h0 : ∀ e τ, t1 T c p = .error e → CF T i σ0 e τ → Ok (f 0 τ) Q) : Ok (bnd (F_X5_take (nI c) σ) f) Q := by
  refine Ok_B ((s_take hA h hu hc hc2).frI fr_X5_take) (fun v τ hv => ?_)
  obtain ⟨hv, fr⟩ := hv
  cases ht : t1 T c p with
  | ok q =>
    rw [ht] at hv
    obtain ⟨-, -, rfl⟩ := t1_ok ht
    have hv1 : v = 1 := hv.1
    rw [hv1]
    exact h1 τ ht hv.2 fr
  | error e =>
    rw [ht] at hv
    have hv1 : v = 0 := hv.1
    rw [hv1]
    exact h0 e τ ht hv.2
/-- a blame -/
theorem s_blame {T : Tk} {i p c x : Nat} {σ0 σ : Mm} {B : Option (Nat × Nat)} (hA : AM T i σ0) (h : CK T i σ0 p σ) (hB : cBl T σ B) (hc : 1 ≤ c ∧ c ≤ 5) (hx : x ≤ 400) (hg : gTk T x) : Ok (F_X5_blame (nI c) (nI x) σ) (fun τ => CK T i σ0 p τ ∧ cBl T τ (bla B True c x)) := by
  obtain ⟨h1, h2, h3, h4, h5⟩ := id h
  have hbla : bla B True c x = addB B c x := if_pos trivial
  rw [hbla]
  unfold F_X5_blame F_X5_blame_23
  cases B with
  | some e =>
    have : ¬ mA σ 0 0 12 5 = 0 := by
      rw [hB.1]
      exact nI_ne0 hB.2.2.1 (by have := hB.2.2.2; omega)
    exact Ok_f this (Ok_r ⟨h, hB⟩)
  | none =>
    have ix : inb (nI x) 402 = true := by clear hA h h1 h2 h3 h4 h5 hB hg; grind [gI, gB, gC]
    refine Ok_t hB.1 (Ok_f (nI_pos (by omega)) (Ok_f (nI_nlt (a := 400) hx (by omega)) (Ok_t ix (Ok_r ?_))))
    have e9 : mA (setA σ 0 0 12 (upd (mA σ 0 0 12) 5 (nI c))) 0 0 9 = mA σ 0 0 9 := by rw [mA_R, if_neg (by decide)]
    rw [e9, nI_clamp (by omega), (hA.t h1 hx hg).2.1]
    refine ⟨⟨(h1.A0 rfl).A0 rfl, ?_, ?_, h4, h5⟩, ?_, ?_, hc.1, hc.2⟩
    · simp only [mA_A, mL_A, mP_A, mA_L, mL_L, mP_L, upd_at]; simp; exact h2
    · simp only [mA_A, mL_A, mP_A, mA_L, mL_L, mP_L, upd_at]; simp; exact h3
    · simp only [mA_A, mL_A, mP_A, mA_L, mL_L, mP_L, upd_at]; simp
    · simp only [mA_A, mL_A, mP_A, mA_L, mL_L, mP_L, upd_at]; simp
theorem s_above {T : Tk} {i p m x : Nat} {σ0 σ : Mm} {B : Option (Nat × Nat)} (hA : AM T i σ0) (h : CK T i σ0 p σ) (hB : cBl T σ B) (hx : x ≤ 400) (hg : gTk T x) (h3 : tK T x = 3) (hm : m < 10000) : Ok (F_X5_blameAbove (nI m) (nI x) σ) (fun τ => CK T i σ0 p τ ∧ cBl T τ (bla B (m < tV T x) 5 x)) := by
  have ix : inb (nI x) 402 = true := by clear hA h hB hg h3; grind [gI, gB, gC]
  have hv := hA.1.2.2.2.1 x
  unfold F_X5_blameAbove
  rw [nI_clamp (by omega), (hA.t h.1 hx hg).2.2.1 h3]
  refine Ok_t ix ?_
  by_cases c : tV T x ≤ m
  · have e : bla B (m < tV T x) 5 x = B := if_neg (by omega)
    rw [e]
    exact Ok_t (nI_le c (by omega)) (Ok_r ⟨h, hB⟩)
  · have e : bla B (m < tV T x) 5 x = bla B True 5 x := by
      unfold bla; rw [if_pos (by omega), if_pos trivial]
    rw [e]
    exact Ok_f (nI_ge (by omega) (by omega)) (Ok_V (s_blame hA h hB (c := 5) ⟨by omega, by omega⟩ hx hg) (fun τ hτ => Ok_r hτ))
theorem s_room {T : Tk} {i p n m : Nat} {σ0 σ : Mm} {f : Int32 → Mm → Option Mm} {Q : Mm → Prop} (hA : AM T i σ0) (h : CK T i σ0 p σ) (hu : CU i σ) (hn : n ≤ 100) (hm : m ≤ 100) (h1 : ¬ m ≤ n → Ok (f 1 σ) Q) (h0 : ∀ τ, m ≤ n → CF T i σ0 (2, p) τ → Ok (f 0 τ) Q) : Ok (bnd (F_X5_hasRoom (nI n) (nI m) σ) f) Q := by
  unfold F_X5_hasRoom F_X5_hasRoom_10
  by_cases c : m ≤ n
  · rw [if_neg (nI_nlt c (by omega))]
    have := (s_stop (x := 2) hA h hu (Or.inr rfl))
    obtain ⟨τ, e, hτ⟩ := this
    have e : F_X5_stop 2 σ = some τ := e
    rw [e, bnv_s, if_neg hτ.ne, bnd_s]
    exact h0 τ c hτ
  · rw [if_pos (nI_lt (by omega) (by omega)), if_pos h.2.1, bnd_s]
    exact h1 c
