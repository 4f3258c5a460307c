/-! what the model's TELLS lean on is kept -/
def okJ (T : Tk) (X : Xt) : Prop := nkX T X ∧ (qL X).length = (qT X).length + (qS X).length ∧ (qB X = none → ∀ x ∈ qT X, tV T (x + 3) ≤ 999) ∧ ∀ y, fN T (qL X) y = fC T (qT X) 0 y
theorem okJ_em {T : Tk} : okJ T emX := ⟨fun t e h => (by cases h), rfl, fun _ x hx => (by cases hx), fun y => rfl⟩
theorem fN_app {T : Tk} {y : Nat} {e : Nat × Int32} : ∀ L : List (Nat × Int32), fN T (L ++ [e]) y = if fN T L y = -1 then fN T [e] y else fN T L y := by
  intro L
  induction L with
  | nil => show fN T [e] y = if (-1 : Int32) = -1 then fN T [e] y else -1; rw [if_pos rfl]
  | cons a L ih =>
    show (if tC T a.1 = tC T y then (if a.2 < 0 then fN T (L ++ [e]) y else a.2) else fN T (L ++ [e]) y) = if (if tC T a.1 = tC T y then (if a.2 < 0 then fN T L y else a.2) else fN T L y) = -1 then fN T [e] y else (if tC T a.1 = tC T y then (if a.2 < 0 then fN T L y else a.2) else fN T L y)
    by_cases c1 : tC T a.1 = tC T y
    · rw [if_pos c1, if_pos c1]
      by_cases c2 : a.2 < 0
      · rw [if_pos c2, if_pos c2]; exact ih
      · rw [if_neg c2, if_neg c2, if_neg (fun z => c2 (by rw [z]; decide))]
    · rw [if_neg c1, if_neg c1]; exact ih
theorem fC_app {T : Tk} {y x : Nat} : ∀ (L : List Nat) (s : Nat), s + L.length < 1000 → fC T (L ++ [x]) s y = if fC T L s y = -1 then (if tC T (x + 1) = tC T y then nI (s + L.length) else -1) else fC T L s y := by
  intro L
  induction L with
  | nil => intro s _; show (if tC T (x + 1) = tC T y then nI s else -1) = if (-1 : Int32) = -1 then (if tC T (x + 1) = tC T y then nI (s + 0) else -1) else -1; rw [if_pos rfl]; rfl
  | cons a L ih =>
    intro s hs
    rw [List.length_cons] at hs
    have e : s + (L.length + 1) = s + 1 + L.length := by omega
    show (if tC T (a + 1) = tC T y then nI s else fC T (L ++ [x]) (s + 1) y) = if (if tC T (a + 1) = tC T y then nI s else fC T L (s + 1) y) = -1 then (if tC T (x + 1) = tC T y then nI (s + (L.length + 1)) else -1) else (if tC T (a + 1) = tC T y then nI s else fC T L (s + 1) y)
    by_cases c1 : tC T (a + 1) = tC T y
    · have ne : ¬ nI s = -1 := by
        intro z
        have : ¬ nI s < 0 := nI_nlt (b := 0) (Nat.zero_le _) (by omega)
        rw [z] at this; exact this (by decide)
      rw [if_pos c1, if_pos c1, if_neg ne]
    · rw [if_neg c1, if_neg c1, e]; exact ih (s + 1) (by omega)
theorem bla_none {B : Option (Nat × Nat)} {q : Prop} [Decidable q] {c x : Nat} (h : bla B q c x = none) : B = none ∧ ¬ q := by
  cases B with
  | some b => rw [bla_s] at h; cases h
  | none =>
    refine ⟨rfl, fun z => ?_⟩
    unfold bla at h; rw [if_pos z] at h; cases h
theorem nk_app {T : Tk} {X X' : Xt} {y : Nat} {v : Int32} (h : nkX T X) (e : qL X' = qL X ++ [(y, v)]) (hk : tK T y = 2) (hg : gTk T y) : nkX T X' := by
  intro t z hz
  rw [e] at hz
  rcases getA hz with hj | ⟨rfl, rfl⟩
  · exact h t z hj
  · exact ⟨hk, hg⟩
theorem okJ_step {T : Tk} {X X' : Xt} {p q : Nat} (hX : okX T X) (hM : okJ T X) (hp : p ≤ 400) (hg : gTk T p) (h : tAll T X p = .ok (X', q)) : okJ T X' := by
  obtain ⟨l1, l2, l3, l4, l5, -⟩ := hX
  obtain ⟨m1, m2, m3, m4⟩ := hM
  unfold tAll at h
  split at h
  · next c =>
    unfold tTh at h
    split at h
    · cases h
    · next r =>
      obtain ⟨q', e1, h⟩ := ebd_ok h
      injection h with h; injection h with h1 h2; subst h1 h2
      obtain ⟨z1, z2⟩ := tks_ok _ _ _ e1
      have d : ∀ x ∈ [tK T p, 2, 3, 3, 3, 4], 2 ≤ x := by
        intro x hx
        simp only [List.mem_cons, List.not_mem_nil, or_false] at hx
        omega
      obtain ⟨-, -, gq⟩ := tks_g _ _ _ hp hg d e1
      have z1 : q' = p + 6 := z1
      have k2 : tK T (p + 1) = 2 := z2 1 2 rfl
      refine ⟨nk_app m1 (X' := addT T X p) rfl k2 (gTk_le gq (by omega)), ?_, fun hb x hx => ?_, fun y => ?_⟩
      · show (qL X ++ [_]).length = (qT X ++ [p]).length + (qS X).length
        rw [List.length_append, List.length_append, m2]
        show _ + 1 = _ + 1 + _; omega
      · have hb : bla (bla (bla (bla (qB X) (nmd T X (p + 1) = true) 3 (p + 1)) (999 < tV T (p + 2)) 5 (p + 2)) (999 < tV T (p + 3)) 5 (p + 3)) (tkn T X p = true) 3 (p + 3) = none := hb
        obtain ⟨h1, -⟩ := bla_none hb
        obtain ⟨h1, h2⟩ := bla_none h1
        obtain ⟨h1, -⟩ := bla_none h1
        obtain ⟨h1, -⟩ := bla_none h1
        rcases List.mem_append.mp (show x ∈ qT X ++ [p] from hx) with hx | hx
        · exact m3 h1 x hx
        · rw [List.mem_singleton.mp hx]; omega
      · show fN T (qL X ++ [(p + 1, nI (qT X).length)]) y = fC T (qT X ++ [p]) 0 y
        have e1 : fN T [(p + 1, nI (qT X).length)] y = if tC T (p + 1) = tC T y then (if nI (qT X).length < 0 then -1 else nI (qT X).length) else -1 := rfl
        rw [fN_app, fC_app _ _ (by omega), m4 y, e1, if_neg (show ¬ nI (qT X).length < 0 from nI_nlt (b := 0) (Nat.zero_le _) (by omega)), Nat.zero_add]
  split at h
  · unfold tDo at h
    split at h
    · cases h
    · next r =>
      obtain ⟨q', e1, h⟩ := ebd_ok h
      injection h with h; injection h with h1 h2; subst h1 h2
      refine ⟨m1, m2, fun hb => m3 ?_, m4⟩
      have hb : (if fC T (qT X) 0 (p + 1) = -1 then bla (qB X) True 4 (p + 1) else if fC T (qT X) 0 (p + 2) = -1 then bla (qB X) True 4 (p + 2) else bla (qB X) (fC T (qT X) 0 (p + 1) = fC T (qT X) 0 (p + 2)) 5 (p + 2)) = none := hb
      split at hb
      · exact (bla_none hb).1
      split at hb
      · exact (bla_none hb).1
      · exact (bla_none hb).1
  split at h
  · unfold tHi at h
    split at h
    · cases h
    · next r =>
      obtain ⟨q', e1, h⟩ := ebd_ok h
      injection h with h; injection h with h1 h2; subst h1 h2
      refine ⟨m1, m2, fun hb => m3 ?_, m4⟩
      have hb : bla (bla (bla (qB X) (359 < tV T (p + 1)) 5 (p + 1)) (359 < tV T (p + 2)) 5 (p + 2)) (20 < tV T (p + 3)) 5 (p + 3) = none := hb
      exact (bla_none (bla_none (bla_none hb).1).1).1
  split at h
  · unfold tSk at h
    split at h
    · cases h
    · next r =>
      obtain ⟨p2, e1, h⟩ := ebd_ok h
      obtain ⟨⟨sp, p3⟩, e2, h⟩ := ebd_ok h
      obtain ⟨p4, e3, h⟩ := ebd_ok h
      obtain ⟨⟨L, p5⟩, e4, h⟩ := ebd_ok h
      obtain ⟨p6, e5, h⟩ := ebd_ok h
      injection h with h; injection h with h1 h2; subst h1 h2
      have d2 : ∀ c ∈ [20, 2], 2 ≤ c := by decide
      obtain ⟨y1, y2, y3⟩ := tks_g _ _ _ hp hg d2 e1
      have y1 : p2 = p + 2 := y1
      obtain ⟨-, z2⟩ := tks_ok _ _ _ e1
      have k2 : tK T (p + 1) = 2 := z2 1 2 rfl
      refine ⟨nk_app m1 (X' := addS T X p sp L) rfl k2 (gTk_le y3 (by omega)), ?_, fun hb => m3 ?_, fun y => ?_⟩
      · show (qL X ++ [_]).length = (qT X).length + (qS X ++ [_]).length
        rw [List.length_append, List.length_append, m2]
        show _ + 1 = _ + (_ + 1); omega
      · have hb : (if sp = true then bla (bla (qB X) (nmd T X (p + 1) = true) 3 (p + 1)) (20 < tV T (p + 3)) 5 (p + 3) else bla (qB X) (nmd T X (p + 1) = true) 3 (p + 1)) = none := hb
        split at hb
        · exact (bla_none (bla_none hb).1).1
        · exact (bla_none hb).1
      · show fN T (qL X ++ [(p + 1, -1)]) y = fC T (qT X) 0 y
        have e1 : fN T [(p + 1, (-1 : Int32))] y = if tC T (p + 1) = tC T y then (if (-1 : Int32) < 0 then -1 else -1) else -1 := rfl
        have e2 : fN T [(p + 1, (-1 : Int32))] y = -1 := by rw [e1]; split <;> (try split) <;> rfl
        rw [fN_app, e2, m4 y]
        split
        · exact (‹_ = _›).symm
        · rfl
  split at h
  · unfold tNe at h
    obtain ⟨q', e1, h⟩ := ebd_ok h
    injection h with h; injection h with h1 h2; subst h1 h2
    exact ⟨m1, m2, fun hb => m3 (bla_none (show bla (qB X) (20 < tV T (p + 1)) 5 (p + 1) = none from hb)).1, m4⟩
  split at h
  · unfold tRu at h
    split at h
    · cases h
    · next r =>
      obtain ⟨p2, e1, h⟩ := ebd_ok h
      obtain ⟨⟨cd, p3⟩, e2, h⟩ := ebd_ok h
      obtain ⟨p4, e3, h⟩ := ebd_ok h
      injection h with h; injection h with h1 h2; subst h1 h2
      exact ⟨m1, m2, m3, m4⟩
  · cases h
