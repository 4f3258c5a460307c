/-! how the model holds what was told -/
def mBl (T : Tk) (σ : Mm) (p : Nat) (B : Option (Nat × Nat)) : Prop := match B with
  | none => mA σ 3 0 0 10 = 0
  | some e => mA σ 3 0 0 10 = nI e.1 ∧ mA σ 3 0 0 11 = nI (tP T e.2) ∧ 1 ≤ e.1 ∧ e.1 ≤ 5 ∧ e.2 < p
def mNm (σ : Mm) (X : Xt) : Prop := mA σ 3 0 7 1 = qN X ∧ mA σ 3 0 8 1 = nI (qT X).length ∧ mA σ 3 0 14 1 = nI (qD X).length ∧ mA σ 3 0 17 1 = nI (qH X).length ∧ mA σ 3 0 21 1 = nI (qS X).length ∧ mA σ 3 0 25 1 = nI (qR X).length
def mTh (T : Tk) (σ : Mm) (X : Xt) : Prop := ∀ t x, (qT X)[t]? = some x → mA σ 3 0 10 (14 + t) = nI (tV T (x + 2)) ∧ mA σ 3 0 11 (14 + t) = nI (tV T (x + 3)) ∧ mA σ 3 0 12 (14 + t) = nI (tV T (x + 4)) ∧ mA σ 3 0 9 (14 + t) = (if tK T x = 16 then 1 else 0) ∧ mA σ 3 0 13 (14 + t) = -1
def mDo (σ : Mm) (X : Xt) : Prop := ∀ t d, (qD X)[t]? = some d → d.1 < 14 → mA σ 3 0 15 (8 + t) = nI d.1 ∧ mA σ 3 0 16 (8 + t) = nI d.2
def mHi (T : Tk) (σ : Mm) (X : Xt) : Prop := ∀ t x, (qH X)[t]? = some x → mA σ 3 0 18 (12 + t) = nI (tV T (x + 1)) ∧ mA σ 3 0 19 (12 + t) = nI (tV T (x + 2)) ∧ mA σ 3 0 20 (12 + t) = nI (tV T (x + 3))
def mSk (σ : Mm) (c : Nat) (X : Xt) : Prop := ∀ t s, (qS X)[t]? = some s → mA σ 3 0 22 (5 + t) = s.2.1 ∧ SG σ c (mA σ 3 0 23 (5 + t)) (mA σ 3 0 24 (5 + t)) s.2.2
def mRu (σ : Mm) (c l : Nat) (X : Xt) : Prop := ∀ r cd, (qR X)[r]? = some cd → ∃ l0 : Nat, mA σ 3 0 26 (6 + r) = nI l0 ∧ mA σ 3 0 27 (6 + r) = nI (l0 + (fltC cd).length) ∧ l0 + (fltC cd).length ≤ l ∧ ∀ j q, (fltC cd)[j]? = some q → LG σ c (l0 + j) q
def mNa (T : Tk) (σ : Mm) (X : Xt) : Prop := mA σ 3 0 0 49 = nI (qL X).length ∧ ∀ t e, (qL X)[t]? = some e → mL σ 3 0 43 t = lN (tM T e.1) ∧ mA σ 3 0 44 t = e.2
def MR (T : Tk) (c l p : Nat) (X : Xt) (σ : Mm) : Prop := mNm σ X ∧ mTh T σ X ∧ mDo σ X ∧ mHi T σ X ∧ mSk σ c X ∧ mRu σ c l X ∧ mNa T σ X ∧ mBl T σ p (qB X) ∧ mA σ 3 0 28 1 = nI c ∧ mA σ 3 0 31 1 = nI l
def MRX (T : Tk) (σ0 : Mm) (X : Xt) (p : Nat) (σ : Mm) : Prop := ∃ c l, c ≤ p ∧ 3 * l ≤ p ∧ MK T σ0 p σ ∧ MR T c l p X σ
/-- what a TELL leaves, its end not yet taken -/
def oTm (T : Tk) (σ0 : Mm) (r : Er (Xt × Nat)) (q : Int32 × Mm) : Prop := match r with
  | .ok a => q.1 = 1 ∧ MRX T σ0 a.1 a.2 q.2
  | .error e => q.1 = 0 ∧ MF T σ0 e q.2
theorem mBl.mono {T : Tk} {σ : Mm} {p p' : Nat} {B : Option (Nat × Nat)} (h : mBl T σ p B) (hp : p ≤ p') : mBl T σ p' B := by
  cases B with
  | none => exact h
  | some e => exact ⟨h.1, h.2.1, h.2.2.1, h.2.2.2.1, by have := h.2.2.2.2; omega⟩
theorem mBl.fr {T : Tk} {σ τ : Mm} {p : Nat} {B : Option (Nat × Nat)} {W : List (Nat × Nat × Nat)} (h : mBl T σ p B) (hf : Fr W σ τ) (hw : (!(inW W 3 0 10) && !(inW W 3 0 11)) = true) : mBl T τ p B := by
  simp only [Bool.and_eq_true, Bool.not_eq_true'] at hw
  unfold mBl
  rw [hf.fld (t := 3) (k := 0) (f := 10) 0 hw.1, hf.fld (t := 3) (k := 0) (f := 11) 0 hw.2]
  exact h
theorem mNm.fr {σ τ : Mm} {X : Xt} {W : List (Nat × Nat × Nat)} (h : mNm σ X) (hf : Fr W σ τ) (hw : (noW W 3 7 && (noW W 3 8 && (noW W 3 14 && (noW W 3 17 && (noW W 3 21 && noW W 3 25))))) = true) : mNm τ X := by
  simp only [Bool.and_eq_true] at hw
  unfold mNm
  rw [hf.row (t := 3) (k := 7) 0 hw.1, hf.row (t := 3) (k := 8) 0 hw.2.1, hf.row (t := 3) (k := 14) 0 hw.2.2.1, hf.row (t := 3) (k := 17) 0 hw.2.2.2.1, hf.row (t := 3) (k := 21) 0 hw.2.2.2.2.1, hf.row (t := 3) (k := 25) 0 hw.2.2.2.2.2]
  exact h
theorem mTh.fr {T : Tk} {σ τ : Mm} {X : Xt} {W : List (Nat × Nat × Nat)} (h : mTh T σ X) (hf : Fr W σ τ) (hw : (noW W 3 9 && (noW W 3 10 && (noW W 3 11 && (noW W 3 12 && noW W 3 13)))) = true) : mTh T τ X := by
  simp only [Bool.and_eq_true] at hw
  unfold mTh
  rw [hf.row (t := 3) (k := 9) 0 hw.1, hf.row (t := 3) (k := 10) 0 hw.2.1, hf.row (t := 3) (k := 11) 0 hw.2.2.1, hf.row (t := 3) (k := 12) 0 hw.2.2.2.1, hf.row (t := 3) (k := 13) 0 hw.2.2.2.2]
  exact h
theorem mDo.fr {σ τ : Mm} {X : Xt} {W : List (Nat × Nat × Nat)} (h : mDo σ X) (hf : Fr W σ τ) (hw : (noW W 3 15 && noW W 3 16) = true) : mDo τ X := by
  simp only [Bool.and_eq_true] at hw
  unfold mDo
  rw [hf.row (t := 3) (k := 15) 0 hw.1, hf.row (t := 3) (k := 16) 0 hw.2]
  exact h
theorem mHi.fr {T : Tk} {σ τ : Mm} {X : Xt} {W : List (Nat × Nat × Nat)} (h : mHi T σ X) (hf : Fr W σ τ) (hw : (noW W 3 18 && (noW W 3 19 && noW W 3 20)) = true) : mHi T τ X := by
  simp only [Bool.and_eq_true] at hw
  unfold mHi
  rw [hf.row (t := 3) (k := 18) 0 hw.1, hf.row (t := 3) (k := 19) 0 hw.2.1, hf.row (t := 3) (k := 20) 0 hw.2.2]
  exact h
theorem mSk.fr {σ τ : Mm} {c : Nat} {X : Xt} {W : List (Nat × Nat × Nat)} (h : mSk σ c X) (hf : Fr W σ τ) (hw : (noW W 3 22 && (noW W 3 23 && (noW W 3 24 && (noW W 3 29 && noW W 3 30)))) = true) : mSk τ c X := by
  simp only [Bool.and_eq_true] at hw
  unfold mSk SG
  rw [hf.row (t := 3) (k := 22) 0 hw.1, hf.row (t := 3) (k := 23) 0 hw.2.1, hf.row (t := 3) (k := 24) 0 hw.2.2.1, hf.row (t := 3) (k := 29) 0 hw.2.2.2.1, hf.row (t := 3) (k := 30) 0 hw.2.2.2.2]
  exact h
theorem mRu.fr {σ τ : Mm} {c l : Nat} {X : Xt} {W : List (Nat × Nat × Nat)} (h : mRu σ c l X) (hf : Fr W σ τ) (hw : (noW W 3 26 && (noW W 3 27 && (noW W 3 29 && (noW W 3 30 && (noW W 3 32 && (noW W 3 33 && (noW W 3 34 && (noW W 3 35 && (noW W 3 36 && noW W 3 37))))))))) = true) : mRu τ c l X := by
  simp only [Bool.and_eq_true] at hw
  unfold mRu LG SG
  rw [hf.row (t := 3) (k := 26) 0 hw.1, hf.row (t := 3) (k := 27) 0 hw.2.1, hf.row (t := 3) (k := 29) 0 hw.2.2.1, hf.row (t := 3) (k := 30) 0 hw.2.2.2.1, hf.row (t := 3) (k := 32) 0 hw.2.2.2.2.1, hf.row (t := 3) (k := 33) 0 hw.2.2.2.2.2.1, hf.row (t := 3) (k := 34) 0 hw.2.2.2.2.2.2.1, hf.row (t := 3) (k := 35) 0 hw.2.2.2.2.2.2.2.1, hf.row (t := 3) (k := 36) 0 hw.2.2.2.2.2.2.2.2.1, hf.row (t := 3) (k := 37) 0 hw.2.2.2.2.2.2.2.2.2]
  exact h
theorem mNa.fr {T : Tk} {σ τ : Mm} {X : Xt} {W : List (Nat × Nat × Nat)} (h : mNa T σ X) (hf : Fr W σ τ) (hw : (!(inW W 3 0 49) && (noW W 3 43 && noW W 3 44)) = true) : mNa T τ X := by
  simp only [Bool.and_eq_true, Bool.not_eq_true'] at hw
  unfold mNa
  rw [hf.fld (t := 3) (k := 0) (f := 49) 0 hw.1, hf.rowL (t := 3) (k := 43) 0 hw.2.1, hf.row (t := 3) (k := 44) 0 hw.2.2]
  exact h
/-! blames and numbers -/
theorem s_tells {T : Tk} {p x c : Nat} {σ0 σ : Mm} {B : Option (Nat × Nat)} (hA : AN T σ0) (h : MK T σ0 p σ) (hB : mBl T σ x B) (hc : 1 ≤ c ∧ c ≤ 5) (hx : x ≤ 400) (hg : gTk T x) : Ok (F_X12_tells (nI c) (nI x) σ) (fun τ => MK T σ0 p τ ∧ mBl T τ (x + 1) (bla B True c x) ∧ Fr W_X12_tells σ τ) := by
  have hbla : bla B True c x = addB B c x := if_pos trivial
  rw [hbla]
  obtain ⟨h1, h2, h3, h4, h5⟩ := id h
  unfold F_X12_tells
  rw [(ih1 hx).2, (hA.t h1 hx hg).2.1]
  refine Ok_t (ih1 hx).1 ?_
  cases B with
  | none =>
    refine Ok_t hB ?_
    unfold F_X12_tells_39 F_X12_tells_44
    refine Ok_r ⟨⟨(h1.A rfl (Or.inl sz0)).A rfl (Or.inl sz0), ?_, h3, h4, ?_⟩, ⟨?_, ?_, hc.1, hc.2, Nat.lt_succ_self _⟩, (Fr_r.A rfl).A rfl⟩
    · simp only [mA_A, mL_A, mP_A, mA_L, mL_L, mP_L, upd_at]; simp; exact h2
    · simp only [mA_A, mL_A, mP_A, mA_L, mL_L, mP_L, upd_at]; simp; exact h5
    · simp only [mA_A, mL_A, mP_A, mA_L, mL_L, mP_L, upd_at]; simp
    · simp only [mA_A, mL_A, mP_A, mA_L, mL_L, mP_L, upd_at]; simp
  | some e =>
    obtain ⟨b1, b2, b3, b4, b5⟩ := hB
    have hlt : tP T e.2 < tP T x := hA.1.2.2.1 _ _ b5 hg
    have hP := hA.1.2.1 x
    refine Ok_f (by rw [b1]; exact nI_ne0 b3 (by omega)) ?_
    rw [b2]
    exact Ok_t (nI_lt (by omega) (by omega)) (Ok_r ⟨h, ⟨b1, b2, b3, b4, by omega⟩, Fr_r⟩)
theorem m_int {T : Tk} {p m : Nat} {σ0 σ : Mm} {B : Option (Nat × Nat)} {f : Int32 → Mm → Option (Int32 × Mm)} {Q : Int32 × Mm → Prop} (hA : AN T σ0) (h : MK T σ0 p σ) (hB : mBl T σ p B) (hm : m ≤ 9999)
    (h1 : ∀ τ, t1 T 3 p = .ok (p + 1) → MK T σ0 (p + 1) τ → mA τ 3 0 0 55 = nI (tV T p) → mBl T τ (p + 1) (bla B (m < tV T p) 5 p) → Fr W_X12_takesInt σ τ → Ok (f 1 τ) Q) (h0 : ∀ e τ, t1 T 3 p = .error e → MF T σ0 e τ → Ok (f 0 τ) Q) : Ok (bnd (F_X12_takesInt 0 (nI m) σ) f) Q := by
  have hpK := h.2.1
  have hp4 := h.2.2.1
  have hg := h.2.2.2.1
  unfold F_X12_takesInt
  rw [hpK]
  refine Ok_B (P := fun q => (∃ e, t1 T 3 p = .error e ∧ q.1 = 0 ∧ MF T σ0 e q.2) ∨ (t1 T 3 p = .ok (p + 1) ∧ q.1 = 1 ∧ MK T σ0 (p + 1) q.2 ∧ mA q.2 3 0 0 55 = nI (tV T p) ∧ mBl T q.2 (p + 1) (bla B (m < tV T p) 5 p) ∧ Fr W_X12_takesInt σ q.2)) ?_ (fun v τ hv => ?_)
  · refine Ok_B ((s_takes hA h (c := 3) (s := 1) (Or.inr ⟨rfl, rfl⟩)).frI fr_X12_takes) (fun v τ hv => ?_)
    obtain ⟨hv, f1⟩ := hv
    have f1 : Fr W_X12_takes σ τ := f1
    unfold F_X12_takesInt_10
    cases ht : t1 T 3 p with
    | error e =>
      rw [ht] at hv
      have hv1 : v = 0 := hv.1
      exact Ok_t hv1 (Ok_r (Or.inl ⟨e, rfl, rfl, hv.2⟩))
    | ok q =>
      rw [ht] at hv
      obtain ⟨k3, k4, rfl⟩ := t1_ok ht
      have hv1 : v = 1 := hv.1
      have hK : MK T σ0 (p + 1) τ := hv.2
      have hV := hA.1.2.2.2.1 p
      refine Ok_f (by rw [hv1]; decide) (Ok_t (ih1 hp4).1 ?_)
      rw [(ih1 hp4).2, (hA.t hK.1 hp4 hg).2.2.2.1 k3]
      unfold F_X12_takesInt_25 F_X12_takesInt_41 F_X12_takesInt_47
      generalize hw : setA τ 3 0 0 (upd (mA τ 3 0 0) 55 (nI (tV T p))) = w
      have f2 : Fr [(3, 0, 55)] τ w := by subst hw; exact Fr_r.A rfl
      have e55 : mA w 3 0 0 55 = nI (tV T p) := by subst hw; simp only [mA_A, mL_A, mP_A, mA_L, mL_L, mP_L, upd_at]; simp
      have K2 : MK T σ0 (p + 1) w := by
        refine ⟨?_, ?_, hK.2.2.1, hK.2.2.2.1, ?_⟩
        · subst hw; exact hK.1.A rfl (Or.inl sz0)
        · rw [f2.fld (t := 3) (k := 0) (f := 7) 0 rfl]; exact hK.2.1
        · rw [f2.fld (t := 3) (k := 0) (f := 8) 0 rfl, f2.fld (t := 3) (k := 0) (f := 9) 0 rfl]; exact hK.2.2.2.2
      have B2 : mBl T w p B := (hB.fr f1 rfl).fr f2 rfl
      have F : Fr W_X12_takesInt σ w := (f1.sub rfl).trans (f2.sub rfl)
      rw [e55]
      refine Ok_f (nI_nlt (b := 0) (Nat.zero_le _) (by omega)) ?_
      by_cases c : tV T p ≤ m
      · have e : bla B (m < tV T p) 5 p = B := if_neg (by omega)
        exact Ok_t (nI_le c (by omega)) (Ok_r (Or.inr ⟨rfl, rfl, K2, e55, by rw [e]; exact B2.mono (by omega), F⟩))
      · have e : bla B (m < tV T p) 5 p = bla B True 5 p := by
          unfold bla; rw [if_pos (by omega), if_pos trivial]
        refine Ok_f (nI_ge (by omega) (by omega)) (Ok_V (s_tells (c := 5) hA K2 B2 ⟨by omega, by omega⟩ hp4 hg) (fun υ hυ => Ok_r (Or.inr ⟨rfl, rfl, hυ.1, ?_, by rw [e]; exact hυ.2.1, F.trans (hυ.2.2.sub rfl)⟩)))
        rw [hυ.2.2.fld (t := 3) (k := 0) (f := 55) 0 rfl]; exact e55
  · rcases hv with ⟨e, z1, z2, z3⟩ | ⟨z1, z2, z3, z4, z5, z6⟩
    · have z2 : v = 0 := z2
      rw [z2]; exact h0 e τ z1 z3
    · have z2 : v = 1 := z2
      rw [z2]; exact h1 τ z1 z3 z4 z5 z6
