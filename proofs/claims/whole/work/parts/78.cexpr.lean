/-! the class reads: its state between TOKENS, its state behind a FAULT -/
def WRd : List (Nat × Nat × Nat) := [(0, 12, 0), (0, 12, 1), (0, 12, 4), (0, 12, 5), (0, 12, 6), (0, 13, 999), (0, 14, 999), (1, 0, 999), (1, 1, 999), (1, 2, 999), (1, 3, 999), (1, 4, 999), (1, 5, 999), (1, 6, 999), (1, 7, 999), (1, 8, 999), (1, 9, 999), (1, 10, 0), (1, 11, 999), (1, 12, 999), (1, 13, 999), (1, 14, 999)]
def FI (i : Nat) (σ0 σ : Mm) : Prop := Fr WRd σ0 σ ∧ ∀ i' k, i' ≠ i → mA σ 1 i' k = mA σ0 1 i' k
theorem FI_r {i : Nat} {σ : Mm} : FI i σ σ := ⟨Fr_r, fun _ _ _ => rfl⟩
theorem FI.A0 {i k j : Nat} {σ0 σ : Mm} {v : Int32} (h : FI i σ0 σ) (hw : inW WRd 0 k j = true) : FI i σ0 (setA σ 0 0 k (upd (mA σ 0 0 k) j v)) :=
  ⟨h.1.A hw, fun i' k' hi => by rw [mA_R, if_neg (fun z => absurd z.1 (by decide))]; exact h.2 i' k' hi⟩
theorem FI.A1 {i k j : Nat} {σ0 σ : Mm} {v : Int32} (h : FI i σ0 σ) (hw : inW WRd 1 k j = true) : FI i σ0 (setA σ 1 i k (upd (mA σ 1 i k) j v)) :=
  ⟨h.1.A hw, fun i' k' hi => by rw [mA_R, if_neg (fun z => hi z.2.1)]; exact h.2 i' k' hi⟩
theorem FI.L0 {i k : Nat} {σ0 σ : Mm} {g : Nat → Int64} (h : FI i σ0 σ) (hw : anW WRd 0 k = true) : FI i σ0 (setL σ 0 0 k g) :=
  ⟨h.1.LL hw, fun i' k' hi => h.2 i' k' hi⟩
def AM (T : Tk) (i : Nat) (σ0 : Mm) : Prop := TW T ∧ mP σ0 2 = i ∧ okP σ0 = true ∧ ∀ j, j ≤ 400 → gTk T j → mA σ0 0 0 8 j = nI (tK T j) ∧ mA σ0 0 0 9 j = nI (tP T j) ∧ (tK T j = 3 → mA σ0 0 0 10 j = nI (tV T j)) ∧ (tK T j = 2 → mL σ0 0 0 11 j = lN (tC T j))
theorem AM.p {T : Tk} {i : Nat} {σ0 σ : Mm} (hA : AM T i σ0) (h : FI i σ0 σ) : mP σ 2 = i ∧ okP σ = true := by
  have e : ∀ n, mP σ n = mP σ0 n := fun n => h.1.p (by rfl)
  refine ⟨(e 2).trans hA.2.1, ?_⟩
  unfold okP
  rw [e, e, e]
  exact hA.2.2.1
theorem AM.t {T : Tk} {i : Nat} {σ0 σ : Mm} (hA : AM T i σ0) (h : FI i σ0 σ) {j : Nat} (hj : j ≤ 400) (hg : gTk T j) : mA σ 0 0 8 j = nI (tK T j) ∧ mA σ 0 0 9 j = nI (tP T j) ∧ (tK T j = 3 → mA σ 0 0 10 j = nI (tV T j)) ∧ (tK T j = 2 → mL σ 0 0 11 j = lN (tC T j)) := by
  rw [h.1.row (t := 0) (k := 8) 0 rfl, h.1.row (t := 0) (k := 9) 0 rfl, h.1.row (t := 0) (k := 10) 0 rfl, h.1.rowL (t := 0) (k := 11) 0 rfl]
  exact hA.2.2.2 j hj hg
def CK (T : Tk) (i : Nat) (σ0 : Mm) (p : Nat) (σ : Mm) : Prop := FI i σ0 σ ∧ mA σ 0 0 12 0 = 0 ∧ mA σ 0 0 12 4 = nI p ∧ p ≤ 400 ∧ gTk T p
def CF (T : Tk) (i : Nat) (σ0 : Mm) (e : Nat × Nat) (σ : Mm) : Prop := FI i σ0 σ ∧ (e.1 = 1 ∨ e.1 = 2) ∧ mA σ 0 0 12 0 = nI e.1 ∧ mA σ 0 0 12 1 = nI (tP T e.2) ∧ (∃ p, p ≤ 400 ∧ gTk T p ∧ mA σ 0 0 12 4 = nI p) ∧ ∃ u, u ≤ 400 ∧ mA σ 1 i 10 0 = nI u
def CU (i : Nat) (σ : Mm) : Prop := ∃ u, u ≤ 400 ∧ mA σ 1 i 10 0 = nI u
theorem CF.ne {T : Tk} {i : Nat} {σ0 σ : Mm} {e : Nat × Nat} (h : CF T i σ0 e σ) : ¬ mA σ 0 0 12 0 = 0 := by
  rw [h.2.2.1]
  rcases h.2.1 with z | z <;> rw [z] <;> decide
theorem kq {k c : Nat} (hk : k ≤ 400) (hc : c ≤ 400) : nI k = nI c ↔ k = c := nI_eq (by omega) (by omega)
theorem s_kind {T : Tk} {i p : Nat} {σ0 σ : Mm} (hA : AM T i σ0) (h : CK T i σ0 p σ) : F_X5_kindHere σ = some (nI (tK T p), σ) := by
  obtain ⟨h1, h2, h3, h4, h5⟩ := h
  have ip : inb (nI p) 402 = true := by clear hA h1 h2 h3 h5; grind [gI, gB, gC]
  unfold F_X5_kindHere
  rw [h3, if_neg (show ¬ (400 : Int32) < nI p from nI_nlt (a := 400) h4 (by omega)), if_pos ip, nI_clamp (by omega), (hA.t h1 h4 h5).1]
theorem s_kindF {T : Tk} {i : Nat} {σ0 σ : Mm} {e : Nat × Nat} (hA : AM T i σ0) (h : CF T i σ0 e σ) : ∃ p, p ≤ 400 ∧ gTk T p ∧ mA σ 0 0 12 4 = nI p ∧ F_X5_kindHere σ = some (nI (tK T p), σ) := by
  obtain ⟨h1, h2, h3, h4, ⟨p, hp, hg, ha⟩, h6⟩ := h
  have ip : inb (nI p) 402 = true := by clear hA h1 h2 h3 h6 hg ha; grind [gI, gB, gC]
  refine ⟨p, hp, hg, ha, ?_⟩
  unfold F_X5_kindHere
  rw [ha, if_neg (show ¬ (400 : Int32) < nI p from nI_nlt (a := 400) hp (by omega)), if_pos ip, nI_clamp (by omega), (hA.t h1 hp hg).1]
theorem s_takeF {T : Tk} {i : Nat} {σ0 σ : Mm} {e : Nat × Nat} {c : Int32} (h : CF T i σ0 e σ) : F_X5_take c σ = some (0, σ) := by
  unfold F_X5_take
  rw [if_neg h.ne]
theorem s_stopF {T : Tk} {i : Nat} {σ0 σ : Mm} {e : Nat × Nat} {c : Int32} (h : CF T i σ0 e σ) : F_X5_stop c σ = some σ := by
  unfold F_X5_stop
  rw [if_neg h.ne]
/-- what a TOKEN taken leaves -/
def oT (T : Tk) (i : Nat) (σ0 : Mm) (r : Er Nat) (q : Int32 × Mm) : Prop := match r with
  | .ok p => q.1 = 1 ∧ CK T i σ0 p q.2
  | .error e => q.1 = 0 ∧ CF T i σ0 e q.2
theorem s_stop {T : Tk} {i p x : Nat} {σ0 σ : Mm} (hA : AM T i σ0) (h : CK T i σ0 p σ) (hu : CU i σ) (hx : x = 1 ∨ x = 2) : Ok (F_X5_stop (nI x) σ) (CF T i σ0 (x, p)) := by
  obtain ⟨h1, h2, h3, h4, h5⟩ := h
  have ip : inb (nI p) 402 = true := by clear hA h1 h2 h3 h5 hu; grind [gI, gB, gC]
  unfold F_X5_stop F_X5_stop_22
  refine Ok_t h2 (Ok_f (by rw [h3]; exact nI_nlt (a := 400) h4 (by omega)) ?_)
  have e4 : mA (setA σ 0 0 12 (upd (mA σ 0 0 12) 0 (nI x))) 0 0 12 4 = nI p := by rw [mA_A, if_pos ⟨rfl, rfl, rfl⟩, upd_at, if_neg (by decide)]; exact h3
  have e9 : mA (setA σ 0 0 12 (upd (mA σ 0 0 12) 0 (nI x))) 0 0 9 = mA σ 0 0 9 := by rw [mA_R, if_neg (by decide)]
  rw [e4, e9, nI_clamp (by omega), (hA.t h1 h4 h5).2.1]
  refine Ok_t ip (Ok_r ⟨(h1.A0 rfl).A0 rfl, hx, ?_, ?_, ⟨p, h4, h5, ?_⟩, ?_⟩)
  · simp only [mA_A, mL_A, mP_A, mA_L, mL_L, mP_L, upd_at]; simp
  · simp only [mA_A, mL_A, mP_A, mA_L, mL_L, mP_L, upd_at]; simp
  · simp only [mA_A, mL_A, mP_A, mA_L, mL_L, mP_L, upd_at]; simp; exact h3
  · obtain ⟨u, hu1, hu2⟩ := hu
    exact ⟨u, hu1, by simp only [mA_A, mL_A, mP_A, mA_L, mL_L, mP_L, upd_at]; simp; exact hu2⟩
theorem s_take {T : Tk} {i p c : Nat} {σ0 σ : Mm} (hA : AM T i σ0) (h : CK T i σ0 p σ) (hu : CU i σ) (hc : c ≤ 40) (hc2 : 2 ≤ c) : Ok (F_X5_take (nI c) σ) (oT T i σ0 (t1 T c p)) := by
  have hk := hA.1.1 p
  obtain ⟨h1, h2, h3, h4, h5⟩ := id h
  have ip : inb (nI p) 402 = true := by clear hA h1 h2 h3 h5 hu hk h; grind [gI, gB, gC]
  obtain ⟨r1, r2, -, -⟩ := hA.t h1 h4 h5
  unfold F_X5_take
  rw [h2, h3, nI_clamp (by omega), r1]
  refine Ok_t rfl (Ok_t (nI_le (b := 400) h4 (by omega)) (Ok_t ip ?_))
  have bad : ∀ x : Nat, (x = 1 ∨ x = 2) → Ok (F_X5_take_79 (nI x) σ) (fun q => q.1 = 0 ∧ CF T i σ0 (x, p) q.2) := by
    intro x hx
    unfold F_X5_take_79 F_X5_take_82 F_X5_take_98
    have e4 : mA (setA σ 0 0 12 (upd (mA σ 0 0 12) 0 (nI x))) 0 0 12 4 = nI p := by rw [mA_A, if_pos ⟨rfl, rfl, rfl⟩, upd_at, if_neg (by decide)]; exact h3
    have e9 : mA (setA σ 0 0 12 (upd (mA σ 0 0 12) 0 (nI x))) 0 0 9 = mA σ 0 0 9 := by rw [mA_R, if_neg (by decide)]
    rw [e4, e9, nI_clamp (by omega), r2]
    refine Ok_t ip (Ok_r ⟨rfl, (h1.A0 rfl).A0 rfl, hx, ?_, ?_, ⟨p, h4, h5, ?_⟩, ?_⟩)
    · simp only [mA_A, mL_A, mP_A, mA_L, mL_L, mP_L, upd_at]; simp
    · simp only [mA_A, mL_A, mP_A, mA_L, mL_L, mP_L, upd_at]; simp
    · simp only [mA_A, mL_A, mP_A, mA_L, mL_L, mP_L, upd_at]; simp; exact h3
    · obtain ⟨u, hu1, hu2⟩ := hu
      exact ⟨u, hu1, by simp only [mA_A, mL_A, mP_A, mA_L, mL_L, mP_L, upd_at]; simp; exact hu2⟩
  unfold F_X5_take_57
  rw [h3, nI_clamp (by omega), r1]
  by_cases c1 : tK T p = c
  · refine Ok_t (by rw [c1]) ?_
    by_cases c2 : p < 400
    · have e : t1 T c p = .ok (p + 1) := by unfold t1; rw [if_pos c1, if_pos c2]
      rw [e]
      refine Ok_f (nI_ge (b := 400) c2 (by omega)) (Ok_r ⟨rfl, h1.A0 rfl, ?_, ?_, by omega, gTk_s h5 (by omega) (by omega)⟩)
      · simp only [mA_A, mL_A, mP_A, mA_L, mL_L, mP_L, upd_at]; simp; exact h2
      · simp only [mA_A, mL_A, mP_A, mA_L, mL_L, mP_L, upd_at]; simp
        exact nI_1 p
    · have e : t1 T c p = .error (2, p) := by unfold t1; rw [if_pos c1, if_neg c2]
      rw [e]
      exact Ok_t (nI_le (a := 400) (by omega) (by omega)) (Ok_t ip (Ok_t (by rw [c1]) (bad 2 (Or.inr rfl))))
  · have e : t1 T c p = .error (1, p) := by unfold t1; rw [if_neg c1]
    rw [e]
    exact Ok_f (fun z => c1 ((kq (by omega) (by omega)).mp z)) (Ok_t ip (Ok_f (fun z => c1 ((kq (by omega) (by omega)).mp z)) (bad 1 (Or.inl rfl))))
theorem s_putF {T : Tk} {i : Nat} {σ0 σ : Mm} {e : Nat × Nat} {x y : Int32} (h : CF T i σ0 e σ) : Ok (F_X0_put i x y σ) (CF T i σ0 e) := by
  obtain ⟨h1, h2, h3, h4, ⟨p, hp, hg, ha⟩, u, hu, hv⟩ := id h
  unfold F_X0_put F_X0_put_20 F_X0_put_30
  rw [hv]
  by_cases c : 400 ≤ u
  · exact Ok_t (nI_le (a := 400) c (by omega)) (Ok_r h)
  have iu : inb (nI u) 400 = true := by clear h h1 h2 h3 h4 hg ha hv; grind [gI, gB, gC]
  refine Ok_f (nI_ge (b := 400) (by omega) (by omega)) (Ok_t iu ?_)
  have e1 : mA (setA σ 1 i 11 (upd (mA σ 1 i 11) (nI u).toNatClampNeg x)) 1 i 10 0 = nI u := by rw [mA_A, if_neg (by simp)]; exact hv
  rw [e1]
  refine Ok_t iu (Ok_r ⟨((h1.A1 rfl).A1 rfl).A1 rfl, h2, ?_, ?_, ⟨p, hp, hg, ?_⟩, u + 1, by omega, ?_⟩)
  · simp only [mA_A, mL_A, mP_A, mA_L, mL_L, mP_L, upd_at]; simp; exact h3
  · simp only [mA_A, mL_A, mP_A, mA_L, mL_L, mP_L, upd_at]; simp; exact h4
  · simp only [mA_A, mL_A, mP_A, mA_L, mL_L, mP_L, upd_at]; simp; exact ha
  · simp only [mA_A, mL_A, mP_A, mA_L, mL_L, mP_L, upd_at]; simp
    rw [hv]; exact nI_1 u
def CX (T : Tk) (i : Nat) (σ0 : Mm) (u : Nat) (g k : Nat → Int32) (p : Nat) (C : List (Int32 × Int32)) (σ : Mm) : Prop := CK T i σ0 p σ ∧ mA σ 1 i 10 0 = nI (u + C.length) ∧ (∀ j, j < u → mA σ 1 i 11 j = g j ∧ mA σ 1 i 12 j = k j) ∧ ∀ j z, C[j]? = some z → mA σ 1 i 11 (u + j) = z.1 ∧ (z.1 = 3 → mA σ 1 i 12 (u + j) = z.2)
theorem CX.fr {T : Tk} {i u p p' : Nat} {σ0 σ τ : Mm} {g k : Nat → Int32} {C : List (Int32 × Int32)} {W : List (Nat × Nat × Nat)} (h : CX T i σ0 u g k p C σ) (hk : CK T i σ0 p' τ) (hf : Fr W σ τ) (hw : (noW W 1 10 && (noW W 1 11 && noW W 1 12)) = true) : CX T i σ0 u g k p' C τ := by
  simp only [Bool.and_eq_true] at hw
  refine ⟨hk, ?_⟩
  rw [hf.row (t := 1) (k := 10) i hw.1, hf.row (t := 1) (k := 11) i hw.2.1, hf.row (t := 1) (k := 12) i hw.2.2]
  exact h.2
theorem CX.cu {T : Tk} {i u p : Nat} {σ0 σ : Mm} {g k : Nat → Int32} {C : List (Int32 × Int32)} (h : CX T i σ0 u g k p C σ) (hl : u + C.length ≤ 400) : CU i σ := ⟨_, hl, h.2.1⟩
theorem getA {α : Type} {A : List α} {z w : α} {j : Nat} (h : (A ++ [z])[j]? = some w) : A[j]? = some w ∨ (j = A.length ∧ w = z) := by
  by_cases c : j < A.length
  · rw [List.getElem?_append_left c] at h; exact Or.inl h
  · rw [List.getElem?_append_right (by omega)] at h
    by_cases c2 : j = A.length
    · subst c2
      rw [Nat.sub_self] at h
      cases h
      exact Or.inr ⟨rfl, rfl⟩
    · have : j - A.length = (j - A.length - 1) + 1 := by omega
      rw [this] at h
      cases h
theorem s_putC {T : Tk} {i u p : Nat} {σ0 σ : Mm} {g k : Nat → Int32} {C : List (Int32 × Int32)} {z : Int32 × Int32} {x y : Int32} (h : CX T i σ0 u g k p C σ) (hl : u + C.length < 400) (hx : x = z.1) (hy : z.1 = 3 → y = z.2) : Ok (F_X0_put i x y σ) (CX T i σ0 u g k p (C ++ [z])) := by
  obtain ⟨⟨h1, h2, h3, h4, h5⟩, hv, hg, hC⟩ := id h
  unfold F_X0_put F_X0_put_20 F_X0_put_30
  rw [hv]
  have iu : inb (nI (u + C.length)) 400 = true := by
    generalize u + C.length = q at *
    clear h h1 h2 h3 h4 h5 hv hg hC; grind [gI, gB, gC]
  refine Ok_f (nI_ge (b := 400) (by omega) (by omega)) (Ok_t iu ?_)
  have e1 : mA (setA σ 1 i 11 (upd (mA σ 1 i 11) (nI (u + C.length)).toNatClampNeg x)) 1 i 10 0 = nI (u + C.length) := by rw [mA_A, if_neg (by simp)]; exact hv
  rw [e1, nI_clamp (by omega)]
  refine Ok_t iu (Ok_r ⟨⟨((h1.A1 rfl).A1 rfl).A1 rfl, ?_, ?_, h4, h5⟩, ?_, fun j hj => ?_, fun j w hw => ?_⟩)
  · simp only [mA_A, mL_A, mP_A, mA_L, mL_L, mP_L, upd_at]; simp; exact h2
  · simp only [mA_A, mL_A, mP_A, mA_L, mL_L, mP_L, upd_at]; simp; exact h3
  · simp only [mA_A, mL_A, mP_A, mA_L, mL_L, mP_L, upd_at]; simp
    rw [hv, nI_1]; rfl
  · simp only [mA_A, mL_A, mP_A, mA_L, mL_L, mP_L, upd_at]; simp
    rw [if_neg (by omega), if_neg (by omega)]
    exact hg j hj
  · simp only [mA_A, mL_A, mP_A, mA_L, mL_L, mP_L, upd_at]; simp
    rcases getA hw with hj | ⟨rfl, rfl⟩
    · have := (List.getElem?_eq_some_iff.mp hj).1
      rw [if_neg (by omega), if_neg (by omega)]
      exact hC j w hj
    · rw [if_pos rfl, if_pos rfl]
      exact ⟨hx, hy⟩
def oX (T : Tk) (i : Nat) (σ0 : Mm) (u : Nat) (g k : Nat → Int32) (C : List (Int32 × Int32)) (r : Er Ex) (τ : Mm) : Prop := match r with
  | .ok a => CX T i σ0 u g k a.2 (C ++ encE a.1) τ
  | .error e => CF T i σ0 e τ
theorem unitF {T : Tk} {i : Nat} {σ0 σ : Mm} {e : Nat × Nat} {rcS : Int32 → Mm → Option Mm} {x : Int32} (hA : AM T i σ0) (h : CF T i σ0 e σ) : F_X5_unit rcS x σ = some σ := by
  obtain ⟨p, -, -, -, hk⟩ := s_kindF hA h
  unfold F_X5_unit
  rw [hk, bnd_s]
  generalize nI (tK T p) = v
  have a30 : F_X5_unit_30 rcS x v (mA σ 0 0 12 4) σ = some σ := by
    unfold F_X5_unit_30 F_X5_unit_73
    rw [s_takeF h, bnd_s, s_takeF h, bnd_s, s_stopF h, bnv_s]
    unfold F_X5_unit_42 F_X5_unit_78
    rw [if_pos rfl, if_pos rfl]
    split
    · rfl
    · split
      · rfl
      · split <;> rfl
  unfold F_X5_unit_4
  rw [a30, s_stopF h, bnv_s]
  unfold F_X5_unit_27
  split
  · split <;> rfl
  · rfl
theorem s_unit {T : Tk} {i u d : Nat} {σ0 : Mm} {g k : Nat → Int32} {rcS : Int32 → Mm → Option Mm} {rec : Nat → Er Ex} {last : Bool} (hA : AM T i σ0) (hd : d ≤ 6) (hl : last = decide (6 ≤ d)) (hlen : sLn T rec)
    (hrec : last = false → ∀ p C σ, p ≤ 400 → gTk T p → CX T i σ0 u g k p C σ → u + C.length ≤ p → Ok (rcS (nI (d + 1)) σ) (oX T i σ0 u g k C (rec p))) {p : Nat} {C : List (Int32 × Int32)} {σ : Mm} (h : CX T i σ0 u g k p C σ) (hb : u + C.length ≤ p) : Ok (F_X5_unit rcS (nI d) σ) (oX T i σ0 u g k C (xU T rec last p)) := by
  have hk := hA.1.1 p
  obtain ⟨hK, -, -, -⟩ := id h
  have hp4 : p ≤ 400 := hK.2.2.2.1
  have hcu : CU i σ := h.cu (by omega)
  unfold F_X5_unit
  rw [s_kind hA hK, bnd_s]
  unfold F_X5_unit_4 xU
  have stp0 : ∀ x : Nat, (x = 1 ∨ x = 2) → ∀ f : Mm → Option Mm, (∀ τ, f τ = some τ) → Ok (bnv (F_X5_stop (nI x) σ) f) (oX T i σ0 u g k C (.error (x, p))) := fun x hx f hf => Ok_V (s_stop hA hK hcu hx) (fun τ hτ => ⟨τ, hf τ, hτ⟩)
  have h73 : ∀ z : Int32 × Int32, nI (tK T p) = z.1 → (z.1 = 3 → mA σ 0 0 10 p = z.2) → 2 ≤ tK T p → ∀ o : Op, encO o = z → Ok (F_X5_unit_73 rcS (nI (tK T p)) (nI p) σ) (oX T i σ0 u g k C (if p < 400 then .ok ([o], p + 1) else .error (2, p))) := by
    intro z hz1 hz2 h2 o ho
    unfold F_X5_unit_73
    refine Ok_B ((s_take hA hK hcu (c := tK T p) (by omega) h2).frI fr_X5_take) (fun v τ hv => ?_)
    obtain ⟨hv, f⟩ := hv
    have f : Fr W_X5_take σ τ := f
    unfold t1 at hv
    rw [if_pos rfl] at hv
    unfold F_X5_unit_78
    by_cases c2 : p < 400
    · rw [if_pos c2] at hv ⊢
      obtain ⟨hv1, hv2⟩ := hv
      have hv1 : v = 1 := hv1
      have hX := h.fr hv2 f rfl
      have ip : inb (nI p) 402 = true := by clear hA hX hv2 hv1 hz1 hz2 hK h hcu hrec hlen stp0 hk f; grind [gI, gB, gC]
      refine Ok_f (by rw [hv1]; decide) (Ok_t (hA.p hv2.1).2 (Ok_t ip ?_))
      rw [(hA.p hv2.1).1, nI_clamp (by omega)]
      have e10 : mA τ 0 0 10 = mA σ 0 0 10 := f.row (t := 0) (k := 10) 0 rfl
      refine Ok_V (s_putC hX (z := z) (by omega) hz1 (fun hz3 => by rw [e10]; exact hz2 hz3)) (fun υ hυ => ?_)
      unfold F_X5_unit_101
      refine Ok_r ?_
      show CX T i σ0 u g k (p + 1) (C ++ encE [o]) υ
      have : encE [o] = [z] := by show [encO o] = _; rw [ho]
      rw [this]; exact hυ
    · rw [if_neg c2] at hv ⊢
      obtain ⟨hv1, hv2⟩ := hv
      have hv1 : v = 0 := hv1
      exact Ok_t hv1 (Ok_r hv2)
  by_cases c1 : tK T p = 14
  · rw [if_pos c1]
    refine Ok_t (by rw [c1]; rfl) ?_
    by_cases c2 : 6 ≤ d
    · have hl2 : last = true := by rw [hl]; exact decide_eq_true c2
      rw [if_pos hl2]
      refine Ok_f (show ¬ nI d < 6 from nI_nlt (b := d) (a := d) (by omega) (by omega) |> fun _ => nI_nlt (b := 6) c2 (by omega)) ?_
      exact stp0 2 (Or.inr rfl) _ (fun τ => rfl)
    · have hl2 : last = false := by rw [hl]; exact decide_eq_false c2
      rw [if_neg (show ¬ last = true by rw [hl2]; decide)]
      refine Ok_t (show nI d < 6 from nI_lt (b := 6) (by omega) (by omega)) ?_
      unfold F_X5_unit_30
      refine Ok_t (by rw [c1]; rfl) (Ok_B ((s_take hA hK hcu (c := 14) (by omega) (by omega)).frI fr_X5_take) (fun v τ hv => ?_))
      obtain ⟨hv, f⟩ := hv
      have f : Fr W_X5_take σ τ := f
      unfold t1 at hv
      rw [if_pos c1] at hv
      unfold F_X5_unit_42
      by_cases c3 : p < 400
      · rw [if_pos c3] at hv ⊢
        obtain ⟨hv1, hv2⟩ := hv
        have hv1 : v = 1 := hv1
        have hX := h.fr hv2 f rfl
        refine Ok_f (by rw [hv1]; decide) ?_
        rw [show nI d + 1 = nI (d + 1) from nI_1 d]
        refine Ok_V (hrec hl2 (p + 1) C τ (by omega) hv2.2.2.2.2 hX (by omega)) (fun υ hυ => ?_)
        unfold F_X5_unit_52 F_X5_unit_58
        cases hr : rec (p + 1) with
        | error e =>
          rw [hr] at hυ
          have hυ : CF T i σ0 e υ := hυ
          rw [s_takeF hυ, bnd_s]
          exact Ok_r hυ
        | ok a =>
          obtain ⟨L, q⟩ := a
          rw [hr] at hυ
          have hυ : CX T i σ0 u g k q (C ++ encE L) υ := hυ
          obtain ⟨z1, z2, z3, z4⟩ := hlen (p + 1) L q (by omega) hv2.2.2.2.2 hr
          have hlE : (encE L).length = L.length := List.length_map ..
          refine Ok_B ((s_take hA hυ.1 (hυ.cu (by rw [List.length_append, hlE]; omega)) (c := 15) (by omega) (by omega)).frI fr_X5_take) (fun w φ hw => Ok_r ?_)
          obtain ⟨hw, f2⟩ := hw
          show oX T i σ0 u g k C (ebd (t1 T 15 q) (fun q => .ok (L, q))) φ
          cases ht : t1 T 15 q with
          | error e => rw [ht] at hw; exact hw.2
          | ok q' => rw [ht] at hw; exact hυ.fr hw.2 f2 rfl
      · rw [if_neg c3] at hv ⊢
        obtain ⟨hv1, hv2⟩ := hv
        have hv1 : v = 0 := hv1
        exact Ok_t hv1 (Ok_r hv2)
  · rw [if_neg c1]
    refine Ok_f (fun z => c1 ((kq (by omega) (by omega)).mp z)) ?_
    unfold F_X5_unit_30
    rw [hK.2.2.1]
    refine Ok_f (fun z => c1 ((kq (by omega) (by omega)).mp z)) ?_
    by_cases c2 : tK T p = 3
    · rw [if_pos c2]
      refine Ok_t (by rw [c2]; rfl) ?_
      exact h73 (3, nI (tV T p)) (by rw [c2]; rfl) (fun _ => (hA.t hK.1 hp4 hK.2.2.2.2).2.2.1 c2) (by omega) (0, nI (tV T p)) rfl
    · rw [if_neg c2]
      refine Ok_f (fun z => c2 ((kq (by omega) (by omega)).mp z)) ?_
      by_cases c3 : 28 ≤ tK T p
      · rw [if_pos c3]
        refine Ok_f (nI_nlt (b := 28) c3 (by omega)) ?_
        have e28 : (28 : Int32) + nI (tK T p - 28) = nI (tK T p) := by
          rw [show (28 : Int32) = nI 28 from rfl, nI_add]; exact congrArg nI (by omega)
        refine h73 (28 + nI (tK T p - 28), 0) e28.symm (fun z => ?_) (by omega) (1, nI (tK T p - 28)) rfl
        have z : (28 : Int32) + nI (tK T p - 28) = nI 3 := z
        rw [e28] at z
        exact absurd ((kq (by omega) (by omega)).mp z) (by omega)
      · rw [if_neg c3]
        refine Ok_t (nI_lt (b := 28) (by omega) (by omega)) ?_
        exact stp0 1 (Or.inl rfl) _ (fun τ => rfl)
theorem encO_op {c : Nat} (h : c = 6 ∨ c = 7 ∨ c = 8 ∨ c = 9) : encO (c - 4, 0) = (nI c, 0) := by
  rcases h with rfl | rfl | rfl | rfl <;> rfl
theorem encE_app {A B : List Op} : encE (A ++ B) = encE A ++ encE B := List.map_append
theorem prodF7 {T : Tk} {i : Nat} {σ0 σ : Mm} {e : Nat × Nat} {rcS : Int32 → Mm → Option Mm} {x y : Int32} (h : CF T i σ0 e σ) {n : Nat} : F_X5_product_7 rcS (n + 1) x y σ = some σ := by
  show B_X5_product_7 rcS (F_X5_product_7 rcS n) x y σ = some σ
  unfold B_X5_product_7
  rw [if_neg h.ne]
  split <;> rfl
theorem prod_7 {T : Tk} {i u d : Nat} {σ0 : Mm} {g k : Nat → Int32} {rcS : Int32 → Mm → Option Mm} {sub : Nat → Er Ex} {C : List (Int32 × Int32)} (hA : AM T i σ0) (hlen : sLn T sub)
    (hsub : ∀ p C σ, p ≤ 400 → gTk T p → CX T i σ0 u g k p C σ → u + C.length ≤ p → Ok (F_X5_unit rcS (nI d) σ) (oX T i σ0 u g k C (sub p))) (hF : ∀ e σ, CF T i σ0 e σ → F_X5_unit rcS (nI d) σ = some σ) :
    ∀ (n m j q : Nat) (A : List Op) (σ : Mm), 402 - q < n → 500 ≤ m + q → j < q → CX T i σ0 u g k q (C ++ encE A) σ → u + C.length + A.length ≤ q → Ok (F_X5_product_7 rcS n (nI d) (nI j) σ) (oX T i σ0 u g k C (xL T 8 sub m A q)) := by
  intro n
  induction n with
  | zero => intro m j q A σ h; omega
  | succ n ih =>
    intro m j q A σ hn hm hj h hb
    obtain ⟨hK, -, -, -⟩ := id h
    have hq4 : q ≤ 400 := hK.2.2.2.1
    have hg := hK.2.2.2.2
    have hk := hA.1.1 q
    have hlA : (encE A).length = A.length := List.length_map ..
    have hcu : CU i σ := h.cu (by rw [List.length_append, hlA]; omega)
    change Ok (B_X5_product_7 rcS (F_X5_product_7 rcS n) _ _ _) _
    unfold B_X5_product_7
    refine Ok_f (nI_ge (b := 400) (by omega) (by omega)) (Ok_t hK.2.1 ?_)
    rw [s_kind hA hK, bnd_s]
    unfold F_X5_product_25
    cases m with
    | zero => omega
    | succ m =>
    rw [xL_s]
    by_cases c1 : tK T q = 8 ∨ tK T q = 8 + 1
    · rw [if_pos c1]
      have go : Ok (F_X5_product_41 rcS (F_X5_product_7 rcS n) (nI d) (nI j) (nI (tK T q)) σ) (oX T i σ0 u g k C (if q < 400 then ebd (sub (q + 1)) (fun a => xL T 8 sub m (A ++ a.1 ++ [(tK T q - 4, 0)]) a.2) else .error (2, q))) := by
        unfold F_X5_product_41
        refine Ok_B ((s_take hA hK hcu (c := tK T q) (by omega) (by omega)).frI fr_X5_take) (fun v τ hv => ?_)
        obtain ⟨hv, f⟩ := hv
        have f : Fr W_X5_take σ τ := f
        unfold t1 at hv
        rw [if_pos rfl] at hv
        unfold F_X5_product_46
        have bad : ∀ e υ, CF T i σ0 e υ → Ok (F_X5_product_52 rcS (F_X5_product_7 rcS n) (nI d) (nI j) (nI (tK T q)) υ) (CF T i σ0 e) := by
          intro e υ hυ
          unfold F_X5_product_52
          refine Ok_t (hA.p hυ.1).2 ?_
          rw [(hA.p hυ.1).1]
          refine Ok_V (s_putF hυ) (fun φ hφ => ?_)
          unfold F_X5_product_64
          obtain ⟨n', rfl⟩ : ∃ n', n = n' + 1 := ⟨n - 1, by omega⟩
          rw [prodF7 hφ]
          exact Ok_r hφ
        by_cases c2 : q < 400
        · rw [if_pos c2] at hv ⊢
          obtain ⟨hv1, hv2⟩ := hv
          have hX := h.fr hv2 f rfl
          refine Ok_V (hsub (q + 1) _ τ (by omega) hv2.2.2.2.2 hX (by rw [List.length_append, hlA]; omega)) (fun υ hυ => ?_)
          cases hr : sub (q + 1) with
          | error e =>
            rw [hr] at hυ
            exact bad e υ hυ
          | ok a =>
            obtain ⟨L, q1⟩ := a
            rw [hr] at hυ
            have hυ : CX T i σ0 u g k q1 (C ++ encE A ++ encE L) υ := hυ
            obtain ⟨z1, z2, z3, z4⟩ := hlen (q + 1) L q1 (by omega) hv2.2.2.2.2 hr
            have hlL : (encE L).length = L.length := List.length_map ..
            unfold F_X5_product_52
            refine Ok_t (hA.p hυ.1.1).2 ?_
            rw [(hA.p hυ.1.1).1]
            refine Ok_V (s_putC hυ (z := (nI (tK T q), 0)) (by rw [List.length_append, List.length_append, hlA, hlL]; omega) rfl (fun _ => rfl)) (fun φ hφ => ?_)
            unfold F_X5_product_64
            rw [nI_1]
            refine ih m (j + 1) q1 (A ++ L ++ [(tK T q - 4, 0)]) φ (by omega) (by omega) (by omega) ?_ (by simp only [List.length_append, List.length_cons, List.length_nil]; omega)
            rw [encE_app, encE_app, ← List.append_assoc, ← List.append_assoc]
            have : encE [(tK T q - 4, (0 : Int32))] = [(nI (tK T q), 0)] := by show [encO _] = _; rw [encO_op (by omega)]
            rw [this]
            exact hφ
        · rw [if_neg c2] at hv ⊢
          rw [hF _ _ hv.2, bnv_s]
          exact bad _ _ hv.2
      by_cases c8 : tK T q = 8
      · exact Ok_t (by rw [c8]; rfl) go
      · exact Ok_f (fun z => c8 ((kq (by omega) (by omega)).mp z)) (Ok_t ((kq (c := 8 + 1) (by omega) (by omega)).mpr (by omega)) go)
    · rw [if_neg c1]
      refine Ok_f (fun z => c1 (Or.inl ((kq (by omega) (by omega)).mp z))) (Ok_f (fun z => c1 (Or.inr ((kq (c := 8 + 1) (by omega) (by omega)).mp z))) (Ok_r ?_))
      exact h
theorem s_prod {T : Tk} {i u d : Nat} {σ0 : Mm} {g k : Nat → Int32} {rcS : Int32 → Mm → Option Mm} {sub : Nat → Er Ex} (hA : AM T i σ0) (hlen : sLn T sub)
    (hsub : ∀ p C σ, p ≤ 400 → gTk T p → CX T i σ0 u g k p C σ → u + C.length ≤ p → Ok (F_X5_unit rcS (nI d) σ) (oX T i σ0 u g k C (sub p))) (hF : ∀ e σ, CF T i σ0 e σ → F_X5_unit rcS (nI d) σ = some σ) :
    ∀ p C σ, p ≤ 400 → gTk T p → CX T i σ0 u g k p C σ → u + C.length ≤ p → Ok (F_X5_product rcS (nI d) σ) (oX T i σ0 u g k C (xE T 8 sub p)) := by
  intro p C σ hp hg h hb
  unfold F_X5_product F_X5_product_5 xE
  refine Ok_V (hsub p C σ hp hg h hb) (fun τ hτ => ?_)
  cases hr : sub p with
  | error e =>
    rw [hr] at hτ
    have hτ : CF T i σ0 e τ := hτ
    have := prodF7 (rcS := rcS) (x := nI d) (y := 0) hτ (n := 999999)
    have e2 : F_X5_product_7 rcS FU (nI d) 0 τ = some τ := this
    rw [e2]
    exact Ok_r hτ
  | ok a =>
    obtain ⟨L, q⟩ := a
    rw [hr] at hτ
    obtain ⟨z1, z2, z3, z4⟩ := hlen p L q hp hg hr
    exact prod_7 hA hlen hsub hF FU XF 0 q L τ (by show _ < 1000000; omega) (by show 500 ≤ 500 + _; omega) (by omega) hτ (by omega)
theorem prodF {T : Tk} {i : Nat} {σ0 σ : Mm} {e : Nat × Nat} {rcS : Int32 → Mm → Option Mm} {x : Int32} (hA : AM T i σ0) (h : CF T i σ0 e σ) : F_X5_product rcS x σ = some σ := by
  unfold F_X5_product F_X5_product_5
  rw [unitF hA h, bnv_s]
  exact prodF7 (rcS := rcS) (x := x) (y := 0) h (n := 999999)
theorem sumxF7 {T : Tk} {i : Nat} {σ0 σ : Mm} {e : Nat × Nat} {rcS : Int32 → Mm → Option Mm} {x y : Int32} (h : CF T i σ0 e σ) {n : Nat} : F_X5_sum_7 rcS (n + 1) x y σ = some σ := by
  show B_X5_sum_7 rcS (F_X5_sum_7 rcS n) x y σ = some σ
  unfold B_X5_sum_7
  rw [if_neg h.ne]
  split <;> rfl
theorem sumx_7 {T : Tk} {i u d : Nat} {σ0 : Mm} {g k : Nat → Int32} {rcS : Int32 → Mm → Option Mm} {sub : Nat → Er Ex} {C : List (Int32 × Int32)} (hA : AM T i σ0) (hlen : sLn T sub)
    (hsub : ∀ p C σ, p ≤ 400 → gTk T p → CX T i σ0 u g k p C σ → u + C.length ≤ p → Ok (F_X5_product rcS (nI d) σ) (oX T i σ0 u g k C (sub p))) (hF : ∀ e σ, CF T i σ0 e σ → F_X5_product rcS (nI d) σ = some σ) :
    ∀ (n m j q : Nat) (A : List Op) (σ : Mm), 402 - q < n → 500 ≤ m + q → j < q → CX T i σ0 u g k q (C ++ encE A) σ → u + C.length + A.length ≤ q → Ok (F_X5_sum_7 rcS n (nI d) (nI j) σ) (oX T i σ0 u g k C (xL T 6 sub m A q)) := by
  intro n
  induction n with
  | zero => intro m j q A σ h; omega
  | succ n ih =>
    intro m j q A σ hn hm hj h hb
    obtain ⟨hK, -, -, -⟩ := id h
    have hq4 : q ≤ 400 := hK.2.2.2.1
    have hg := hK.2.2.2.2
    have hk := hA.1.1 q
    have hlA : (encE A).length = A.length := List.length_map ..
    have hcu : CU i σ := h.cu (by rw [List.length_append, hlA]; omega)
    change Ok (B_X5_sum_7 rcS (F_X5_sum_7 rcS n) _ _ _) _
    unfold B_X5_sum_7
    refine Ok_f (nI_ge (b := 400) (by omega) (by omega)) (Ok_t hK.2.1 ?_)
    rw [s_kind hA hK, bnd_s]
    unfold F_X5_sum_25
    cases m with
    | zero => omega
    | succ m =>
    rw [xL_s]
    by_cases c1 : tK T q = 6 ∨ tK T q = 6 + 1
    · rw [if_pos c1]
      have go : Ok (F_X5_sum_41 rcS (F_X5_sum_7 rcS n) (nI d) (nI j) (nI (tK T q)) σ) (oX T i σ0 u g k C (if q < 400 then ebd (sub (q + 1)) (fun a => xL T 6 sub m (A ++ a.1 ++ [(tK T q - 4, 0)]) a.2) else .error (2, q))) := by
        unfold F_X5_sum_41
        refine Ok_B ((s_take hA hK hcu (c := tK T q) (by omega) (by omega)).frI fr_X5_take) (fun v τ hv => ?_)
        obtain ⟨hv, f⟩ := hv
        have f : Fr W_X5_take σ τ := f
        unfold t1 at hv
        rw [if_pos rfl] at hv
        unfold F_X5_sum_46
        have bad : ∀ e υ, CF T i σ0 e υ → Ok (F_X5_sum_52 rcS (F_X5_sum_7 rcS n) (nI d) (nI j) (nI (tK T q)) υ) (CF T i σ0 e) := by
          intro e υ hυ
          unfold F_X5_sum_52
          refine Ok_t (hA.p hυ.1).2 ?_
          rw [(hA.p hυ.1).1]
          refine Ok_V (s_putF hυ) (fun φ hφ => ?_)
          unfold F_X5_sum_64
          obtain ⟨n', rfl⟩ : ∃ n', n = n' + 1 := ⟨n - 1, by omega⟩
          rw [sumxF7 hφ]
          exact Ok_r hφ
        by_cases c2 : q < 400
        · rw [if_pos c2] at hv ⊢
          obtain ⟨hv1, hv2⟩ := hv
          have hX := h.fr hv2 f rfl
          refine Ok_V (hsub (q + 1) _ τ (by omega) hv2.2.2.2.2 hX (by rw [List.length_append, hlA]; omega)) (fun υ hυ => ?_)
          cases hr : sub (q + 1) with
          | error e =>
            rw [hr] at hυ
            exact bad e υ hυ
          | ok a =>
            obtain ⟨L, q1⟩ := a
            rw [hr] at hυ
            have hυ : CX T i σ0 u g k q1 (C ++ encE A ++ encE L) υ := hυ
            obtain ⟨z1, z2, z3, z4⟩ := hlen (q + 1) L q1 (by omega) hv2.2.2.2.2 hr
            have hlL : (encE L).length = L.length := List.length_map ..
            unfold F_X5_sum_52
            refine Ok_t (hA.p hυ.1.1).2 ?_
            rw [(hA.p hυ.1.1).1]
            refine Ok_V (s_putC hυ (z := (nI (tK T q), 0)) (by rw [List.length_append, List.length_append, hlA, hlL]; omega) rfl (fun _ => rfl)) (fun φ hφ => ?_)
            unfold F_X5_sum_64
            rw [nI_1]
            refine ih m (j + 1) q1 (A ++ L ++ [(tK T q - 4, 0)]) φ (by omega) (by omega) (by omega) ?_ (by simp only [List.length_append, List.length_cons, List.length_nil]; omega)
            rw [encE_app, encE_app, ← List.append_assoc, ← List.append_assoc]
            have : encE [(tK T q - 4, (0 : Int32))] = [(nI (tK T q), 0)] := by show [encO _] = _; rw [encO_op (by omega)]
            rw [this]
            exact hφ
        · rw [if_neg c2] at hv ⊢
          rw [hF _ _ hv.2, bnv_s]
          exact bad _ _ hv.2
      by_cases c8 : tK T q = 6
      · exact Ok_t (by rw [c8]; rfl) go
      · exact Ok_f (fun z => c8 ((kq (by omega) (by omega)).mp z)) (Ok_t ((kq (c := 6 + 1) (by omega) (by omega)).mpr (by omega)) go)
    · rw [if_neg c1]
      refine Ok_f (fun z => c1 (Or.inl ((kq (by omega) (by omega)).mp z))) (Ok_f (fun z => c1 (Or.inr ((kq (c := 6 + 1) (by omega) (by omega)).mp z))) (Ok_r ?_))
      exact h
theorem s_sumx {T : Tk} {i u d : Nat} {σ0 : Mm} {g k : Nat → Int32} {rcS : Int32 → Mm → Option Mm} {sub : Nat → Er Ex} (hA : AM T i σ0) (hlen : sLn T sub)
    (hsub : ∀ p C σ, p ≤ 400 → gTk T p → CX T i σ0 u g k p C σ → u + C.length ≤ p → Ok (F_X5_product rcS (nI d) σ) (oX T i σ0 u g k C (sub p))) (hF : ∀ e σ, CF T i σ0 e σ → F_X5_product rcS (nI d) σ = some σ) :
    ∀ p C σ, p ≤ 400 → gTk T p → CX T i σ0 u g k p C σ → u + C.length ≤ p → Ok (F_X5_sum rcS (nI d) σ) (oX T i σ0 u g k C (xE T 6 sub p)) := by
  intro p C σ hp hg h hb
  unfold F_X5_sum F_X5_sum_5 xE
  refine Ok_V (hsub p C σ hp hg h hb) (fun τ hτ => ?_)
  cases hr : sub p with
  | error e =>
    rw [hr] at hτ
    have hτ : CF T i σ0 e τ := hτ
    have := sumxF7 (rcS := rcS) (x := nI d) (y := 0) hτ (n := 999999)
    have e2 : F_X5_sum_7 rcS FU (nI d) 0 τ = some τ := this
    rw [e2]
    exact Ok_r hτ
  | ok a =>
    obtain ⟨L, q⟩ := a
    rw [hr] at hτ
    obtain ⟨z1, z2, z3, z4⟩ := hlen p L q hp hg hr
    exact sumx_7 hA hlen hsub hF FU XF 0 q L τ (by show _ < 1000000; omega) (by show 500 ≤ 500 + _; omega) (by omega) hτ (by omega)
theorem sumxF {T : Tk} {i : Nat} {σ0 σ : Mm} {e : Nat × Nat} {rcS : Int32 → Mm → Option Mm} {x : Int32} (hA : AM T i σ0) (h : CF T i σ0 e σ) : F_X5_sum rcS x σ = some σ := by
  unfold F_X5_sum F_X5_sum_5
  rw [prodF hA h, bnv_s]
  exact sumxF7 (rcS := rcS) (x := x) (y := 0) h (n := 999999)
theorem s_FS {T : Tk} {i u : Nat} {σ0 : Mm} {g k : Nat → Int32} (hA : AM T i σ0) : ∀ f, f ≤ 6 → ∀ p C σ, p ≤ 400 → gTk T p → CX T i σ0 u g k p C σ → u + C.length ≤ p → Ok (FS (f + 2) (nI (6 - f)) σ) (oX T i σ0 u g k C (xS T (f + 1) p)) := by
  intro f
  induction f with
  | zero =>
    intro _
    exact s_sumx hA (sLn_E (by omega) (sLn_U (sLn_S 0))) (s_prod hA (sLn_U (sLn_S 0)) (fun p C σ hp hg h hb => s_unit (last := true) hA (by omega) (by rfl) (sLn_S 0) (fun z => by cases z) h hb) (fun e σ h => unitF hA h)) (fun e σ h => prodF hA h)
  | succ f ih =>
    intro hf
    have hfb : (f + 1 == 0) = false := rfl
    refine s_sumx (d := 6 - (f + 1)) (rcS := FS (f + 2)) hA (sLn_E (by omega) (sLn_U (sLn_S (f + 1)))) (s_prod hA (sLn_U (sLn_S (f + 1))) (fun p C σ hp hg h hb => s_unit (last := false) hA (by omega) (by rw [decide_eq_false (by omega)]) (sLn_S (f + 1)) (fun _ p C σ hp hg h hb => ?_) h hb) (fun e σ h => unitF hA h)) (fun e σ h => prodF hA h)
    rw [show 6 - (f + 1) + 1 = 6 - f by omega]
    exact ih (by omega) p C σ hp hg h hb
theorem s_FS8 {T : Tk} {i u : Nat} {σ0 : Mm} {g k : Nat → Int32} (hA : AM T i σ0) {p : Nat} {C : List (Int32 × Int32)} {σ : Mm} (h : CX T i σ0 u g k p C σ) (hb : u + C.length ≤ p) : Ok (FS 8 0 σ) (oX T i σ0 u g k C (xS T 7 p)) :=
  s_FS hA 6 (Nat.le_refl _) p C σ h.1.2.2.2.1 h.1.2.2.2.2 h hb
theorem FS8F {T : Tk} {i : Nat} {σ0 σ : Mm} {e : Nat × Nat} (hA : AM T i σ0) (h : CF T i σ0 e σ) : FS 8 0 σ = some σ := sumxF (rcS := FS 7) hA h
