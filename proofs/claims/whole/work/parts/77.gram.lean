/-! the grammar over TOKENS that are numbers: 0 the end, 1 none, 2 a NAME, 3 an INT, 4 ; 5 = 6 + 7 - 8 * 9 / 10 == 11 != 12 < 13 <= 14 ( 15 ) 16 and on the words -/
abbrev Tk : Type := (Nat → Nat) × (Nat → Nat) × (Nat → Nat) × (Nat → Nat) × (Nat → Nat)
/-- kinds, places, values of INTs, NAMES as the class has them, NAMES as the model has them -/
abbrev tK (T : Tk) : Nat → Nat := T.1
abbrev tP (T : Tk) : Nat → Nat := T.2.1
abbrev tV (T : Tk) : Nat → Nat := T.2.2.1
abbrev tC (T : Tk) : Nat → Nat := T.2.2.2.1
abbrev tM (T : Tk) : Nat → Nat := T.2.2.2.2
def gTk (T : Tk) (i : Nat) : Prop := ∀ j, j < i → tK T j ≠ 0 ∧ tK T j ≠ 1
def TW (T : Tk) : Prop := (∀ i, tK T i ≤ 36) ∧ (∀ i, tP T i ≤ 2000) ∧ (∀ i j, i < j → gTk T j → tP T i < tP T j) ∧ (∀ i, tV T i ≤ 9999) ∧
  (∀ i j, gTk T i → gTk T j → tK T i = 2 → tK T j = 2 → (tC T i = tC T j ↔ tM T i = tM T j)) ∧ ∀ i, tC T i < 2 ^ 62 ∧ tM T i < 2 ^ 62
theorem gTk_0 {T : Tk} : gTk T 0 := fun j hj => absurd hj (by omega)
theorem gTk_s {T : Tk} {p : Nat} (h : gTk T p) (h0 : tK T p ≠ 0) (h1 : tK T p ≠ 1) : gTk T (p + 1) := fun j hj => by
  by_cases e : j = p
  · subst e; exact ⟨h0, h1⟩
  · exact h j (by omega)
theorem gTk_le {T : Tk} {p q : Nat} (h : gTk T q) (hp : p ≤ q) : gTk T p := fun j hj => h j (by omega)
abbrev Er (α : Type) : Type := Except (Nat × Nat) α
def ebd {α β : Type} (o : Er α) (f : α → Er β) : Er β := match o with
  | .ok a => f a
  | .error e => .error e
theorem ebd_ok {α β : Type} {o : Er α} {f : α → Er β} {b : β} (h : ebd o f = .ok b) : ∃ a, o = .ok a ∧ f a = .ok b := by
  cases o with
  | ok a => exact ⟨a, rfl, h⟩
  | error e => cases h
def t1 (T : Tk) (c p : Nat) : Er Nat := if tK T p = c then (if p < 400 then .ok (p + 1) else .error (2, p)) else .error (1, p)
theorem t1_ok {T : Tk} {c p q : Nat} (h : t1 T c p = .ok q) : tK T p = c ∧ p < 400 ∧ q = p + 1 := by
  unfold t1 at h
  by_cases h1 : tK T p = c
  · rw [if_pos h1] at h
    by_cases h2 : p < 400
    · rw [if_pos h2] at h
      cases h
      exact ⟨h1, h2, rfl⟩
    · rw [if_neg h2] at h; cases h
  · rw [if_neg h1] at h; cases h
abbrev Ex : Type := List Op × Nat
def xU (T : Tk) (rec : Nat → Er Ex) (last : Bool) (p : Nat) : Er Ex :=
  if tK T p = 14 then (if last = true then .error (2, p) else if p < 400 then ebd (rec (p + 1)) (fun a => ebd (t1 T 15 a.2) (fun q => .ok (a.1, q))) else .error (2, p))
  else if tK T p = 3 then (if p < 400 then .ok ([(0, nI (tV T p))], p + 1) else .error (2, p))
  else if 28 ≤ tK T p then (if p < 400 then .ok ([(1, nI (tK T p - 28))], p + 1) else .error (2, p))
  else .error (1, p)
def xL (T : Tk) (c : Nat) (sub : Nat → Er Ex) : Nat → List Op → Nat → Er Ex
  | 0, _, q => .error (1, q)
  | n + 1, A, q => if tK T q = c ∨ tK T q = c + 1 then (if q < 400 then ebd (sub (q + 1)) (fun a => xL T c sub n (A ++ a.1 ++ [(tK T q - 4, 0)]) a.2) else .error (2, q)) else .ok (A, q)
def XF : Nat := 500
def xE (T : Tk) (c : Nat) (sub : Nat → Er Ex) (p : Nat) : Er Ex := ebd (sub p) (fun a => xL T c sub XF a.1 a.2)
def xS (T : Tk) : Nat → Nat → Er Ex
  | 0, p => .error (2, p)
  | f + 1, p => xE T 6 (xE T 8 (xU T (xS T f) (f == 0))) p
theorem xL_s {T : Tk} {c : Nat} {sub : Nat → Er Ex} {n : Nat} {A : List Op} {q : Nat} : xL T c sub (n + 1) A q = if tK T q = c ∨ tK T q = c + 1 then (if q < 400 then ebd (sub (q + 1)) (fun a => xL T c sub n (A ++ a.1 ++ [(tK T q - 4, 0)]) a.2) else .error (2, q)) else .ok (A, q) := rfl
/-! what an expression takes, and how deep its work goes -/
def sLn (T : Tk) (sub : Nat → Er Ex) : Prop := ∀ p L q, p ≤ 400 → gTk T p → sub p = .ok (L, q) → p + L.length ≤ q ∧ p < q ∧ q ≤ 400 ∧ gTk T q
theorem sLn_U {T : Tk} {rec : Nat → Er Ex} {last : Bool} (hr : sLn T rec) : sLn T (xU T rec last) := by
  intro p L q hp hg h
  unfold xU at h
  by_cases c1 : tK T p = 14
  · rw [if_pos c1] at h
    cases last with
    | true => rw [if_pos rfl] at h; cases h
    | false =>
      rw [if_neg (by decide)] at h
      by_cases c2 : p < 400
      · rw [if_pos c2] at h
        obtain ⟨⟨L', q'⟩, e1, e2⟩ := ebd_ok h
        obtain ⟨q2, e3, e4⟩ := ebd_ok e2
        obtain ⟨k1, k2, rfl⟩ := t1_ok e3
        cases e4
        obtain ⟨z1, z2, z3, z4⟩ := hr (p + 1) L' q' (by omega) (gTk_s hg (by omega) (by omega)) e1
        have k1 : tK T q' = 15 := k1
        have k2 : q' < 400 := k2
        exact ⟨show p + L'.length ≤ q' + 1 by omega, show p < q' + 1 by omega, show q' + 1 ≤ 400 by omega, gTk_s z4 (by omega) (by omega)⟩
      · rw [if_neg c2] at h; cases h
  · rw [if_neg c1] at h
    by_cases c2 : tK T p = 3
    · rw [if_pos c2] at h
      by_cases c3 : p < 400
      · rw [if_pos c3] at h; cases h
        exact ⟨by simp, by omega, by omega, gTk_s hg (by omega) (by omega)⟩
      · rw [if_neg c3] at h; cases h
    · rw [if_neg c2] at h
      by_cases c4 : 28 ≤ tK T p
      · rw [if_pos c4] at h
        by_cases c3 : p < 400
        · rw [if_pos c3] at h; cases h
          exact ⟨by simp, by omega, by omega, gTk_s hg (by omega) (by omega)⟩
        · rw [if_neg c3] at h; cases h
      · rw [if_neg c4] at h; cases h
theorem sLn_L {T : Tk} {c : Nat} {sub : Nat → Er Ex} (hc : 2 ≤ c) (hs : sLn T sub) : ∀ n A q L q', q ≤ 400 → gTk T q → xL T c sub n A q = .ok (L, q') → q + L.length ≤ q' + A.length ∧ q ≤ q' ∧ q' ≤ 400 ∧ gTk T q' := by
  intro n
  induction n with
  | zero => intro A q L q' _ _ h; cases h
  | succ n ih =>
    intro A q L q' hq hg h
    rw [xL_s] at h
    by_cases c1 : tK T q = c ∨ tK T q = c + 1
    · rw [if_pos c1] at h
      by_cases c2 : q < 400
      · rw [if_pos c2] at h
        obtain ⟨⟨L1, q1⟩, e1, e2⟩ := ebd_ok h
        obtain ⟨z1, z2, z3, z4⟩ := hs (q + 1) L1 q1 (by omega) (gTk_s hg (by omega) (by omega)) e1
        have := ih _ _ _ _ z3 z4 e2
        simp only [List.length_append, List.length_cons, List.length_nil] at this
        exact ⟨by omega, by omega, this.2.2.1, this.2.2.2⟩
      · rw [if_neg c2] at h; cases h
    · rw [if_neg c1] at h; cases h
      exact ⟨Nat.le_refl _, Nat.le_refl _, hq, hg⟩
theorem sLn_E {T : Tk} {c : Nat} {sub : Nat → Er Ex} (hc : 2 ≤ c) (hs : sLn T sub) : sLn T (xE T c sub) := by
  intro p L q hp hg h
  obtain ⟨⟨L1, q1⟩, e1, e2⟩ := ebd_ok h
  obtain ⟨z1, z2, z3, z4⟩ := hs p L1 q1 hp hg e1
  have e2 : xL T c sub XF L1 q1 = .ok (L, q) := e2
  have := sLn_L hc hs _ _ _ _ _ z3 z4 e2
  exact ⟨by omega, by omega, this.2.2.1, this.2.2.2⟩
theorem sLn_S {T : Tk} : ∀ f, sLn T (xS T f) := by
  intro f
  induction f with
  | zero => intro p L q _ _ h; cases h
  | succ f ih => exact sLn_E (by omega) (sLn_E (by omega) (sLn_U ih))
def HE (L : List Op) (m : Nat) : Prop := (∀ R d, d + m ≤ 15 → hE (L ++ R) d = hE R (d + 1)) ∧ ∀ o ∈ L, o.1 ≤ 5 ∧ (o.1 = 1 → 0 ≤ o.2 ∧ o.2 < 9)
def sHt (sub : Nat → Er Ex) (m : Nat) : Prop := ∀ p L q, sub p = .ok (L, q) → HE L m
theorem HE.le {L : List Op} {m m' : Nat} (h : HE L m) (hm : m ≤ m') : HE L m' := ⟨fun R d hd => h.1 R d (by omega), h.2⟩
theorem HE_one {o : Op} (h1 : o.1 < 2) (h2 : o.1 = 1 → 0 ≤ o.2 ∧ o.2 < 9) : HE [o] 1 := by
  refine ⟨fun R d hd => ?_, fun x hx => ?_⟩
  · show hE (o :: R) d = _
    show (if o.1 < 2 then (if d < 15 then hE R (d + 1) else none) else _) = _
    rw [if_pos h1, if_pos (by omega)]
  · rw [List.mem_singleton.mp hx]; exact ⟨by omega, h2⟩
theorem sHt_U {T : Tk} (hT : TW T) {rec : Nat → Er Ex} {last : Bool} {m : Nat} (hm : 1 ≤ m) (hr : sHt rec m) : sHt (xU T rec last) m := by
  intro p L q h
  unfold xU at h
  by_cases c1 : tK T p = 14
  · rw [if_pos c1] at h
    cases last with
    | true => rw [if_pos rfl] at h; cases h
    | false =>
      rw [if_neg (by decide)] at h
      by_cases c2 : p < 400
      · rw [if_pos c2] at h
        obtain ⟨⟨L', q'⟩, e1, e2⟩ := ebd_ok h
        obtain ⟨q2, e3, e4⟩ := ebd_ok e2
        cases e4
        exact hr _ _ _ e1
      · rw [if_neg c2] at h; cases h
  · rw [if_neg c1] at h
    by_cases c2 : tK T p = 3
    · rw [if_pos c2] at h
      by_cases c3 : p < 400
      · rw [if_pos c3] at h; cases h
        exact (HE_one (show (0 : Nat) < 2 by decide) (fun z => absurd z (show ¬ (0 : Nat) = 1 by decide))).le hm
      · rw [if_neg c3] at h; cases h
    · rw [if_neg c2] at h
      by_cases c4 : 28 ≤ tK T p
      · rw [if_pos c4] at h
        by_cases c3 : p < 400
        · rw [if_pos c3] at h; cases h
          have h36 := hT.1 p
          have k1 : 0 ≤ nI (tK T p - 28) := nI_pos' (by omega)
          have k2 : nI (tK T p - 28) < nI 9 := nI_lt (by omega) (by omega)
          exact (HE_one (o := (1, nI (tK T p - 28))) (show (1 : Nat) < 2 by decide) (fun _ => ⟨k1, k2⟩)).le hm
        · rw [if_neg c3] at h; cases h
      · rw [if_neg c4] at h; cases h
theorem sHt_L {T : Tk} {c m : Nat} {sub : Nat → Er Ex} (hc : c = 6 ∨ c = 8) (hs : sHt sub m) : ∀ n A q L q', HE A (m + 1) → xL T c sub n A q = .ok (L, q') → HE L (m + 1) := by
  intro n
  induction n with
  | zero => intro A q L q' _ h; cases h
  | succ n ih =>
    intro A q L q' hA h
    rw [xL_s] at h
    by_cases c1 : tK T q = c ∨ tK T q = c + 1
    · rw [if_pos c1] at h
      by_cases c2 : q < 400
      · rw [if_pos c2] at h
        obtain ⟨⟨L1, q1⟩, e1, e2⟩ := ebd_ok h
        have h1 := hs _ _ _ e1
        refine ih _ _ _ _ ⟨fun R d hd => ?_, fun o ho => ?_⟩ e2
        · rw [List.append_assoc, List.append_assoc, hA.1 _ _ hd, h1.1 _ _ (by omega)]
          show (if tK T q - 4 < 2 then _ else if 2 ≤ d + 1 + 1 then hE R (d + 1 + 1 - 1) else none) = _
          rw [if_neg (by omega), if_pos (by omega)]; rfl
        · rcases List.mem_append.mp ho with ho | ho
          · rcases List.mem_append.mp ho with ho | ho
            · exact hA.2 o ho
            · exact h1.2 o ho
          · rw [List.mem_singleton.mp ho]
            refine ⟨show tK T q - 4 ≤ 5 by omega, fun z => ?_⟩
            have z : tK T q - 4 = 1 := z
            omega
      · rw [if_neg c2] at h; cases h
    · rw [if_neg c1] at h; cases h
      exact hA
theorem sHt_E {T : Tk} {c m : Nat} {sub : Nat → Er Ex} (hc : c = 6 ∨ c = 8) (hs : sHt sub m) : sHt (xE T c sub) (m + 1) := by
  intro p L q h
  obtain ⟨⟨L1, q1⟩, e1, e2⟩ := ebd_ok h
  exact sHt_L hc hs _ _ _ _ _ ((hs _ _ _ e1).le (by omega)) e2
theorem sHt_S {T : Tk} (hT : TW T) : ∀ f, sHt (xS T f) (2 * f + 1) := by
  intro f
  induction f with
  | zero => intro p L q h; cases h
  | succ f ih =>
    have := sHt_E (T := T) (c := 6) (Or.inl rfl) (sHt_E (T := T) (c := 8) (Or.inr rfl) (sHt_U (last := (f == 0)) hT (by omega) ih))
    rw [show 2 * f + 1 + 1 + 1 = 2 * (f + 1) + 1 by omega] at this
    exact this
theorem wfE_S {T : Tk} (hT : TW T) {p q : Nat} {L : List Op} (h : xS T 7 p = .ok (L, q)) : wfE L := by
  have h1 := sHt_S hT 7 _ _ _ h
  refine ⟨?_, h1.2⟩
  have := h1.1 [] 0 (by omega)
  rw [List.append_nil] at this
  rw [this]; rfl
