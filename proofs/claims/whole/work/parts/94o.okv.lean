/-! what was told, while nothing was blamed -/
def okW (T : Tk) (X : Xt) : Prop := (∀ s ∈ qS X, wfE s.2.2) ∧ (∀ c ∈ qR X, wfC c) ∧ (∃ n : Nat, qN X = nI n ∧ (qB X = none → n ≤ 20)) ∧ (qB X = none → (∀ x ∈ qT X, tV T (x + 2) ≤ 999 ∧ tV T (x + 3) ≤ 999) ∧ (∀ x ∈ qH X, tV T (x + 1) ≤ 359 ∧ tV T (x + 2) ≤ 359 ∧ tV T (x + 3) ≤ 20) ∧ (∀ s ∈ qS X, ∃ n : Nat, s.2.1 = nI n ∧ n ≤ 20) ∧ ∀ d ∈ qD X, d.1 < 14 ∧ d.2 < 14)
theorem okW_em {T : Tk} : okW T emX := ⟨fun s h => (by cases h), fun s h => (by cases h), ⟨2, rfl, fun _ => by omega⟩, fun _ => ⟨fun s h => (by cases h), fun s h => (by cases h), fun s h => (by cases h), fun s h => (by cases h)⟩⟩
theorem okW_step {T : Tk} (hT : TW T) {X X' : Xt} {p q : Nat} (hX : okX T X) (hW : okW T X) (hp : p ≤ 400) (hg : gTk T p) (h : tAll T X p = .ok (X', q)) : okW T X' := by
  obtain ⟨l1, l2, l3, l4, l5, -⟩ := hX
  obtain ⟨w1, w2, ⟨n, w3, w4⟩, w5⟩ := hW
  unfold tAll at h
  split at h
  · unfold tTh at h
    split at h
    · cases h
    · obtain ⟨q', e1, h⟩ := ebd_ok h
      injection h with h; injection h with h1 h2; subst h1 h2
      have key : qB (addT T X p) = none → qB X = none ∧ tV T (p + 2) ≤ 999 ∧ tV T (p + 3) ≤ 999 := by
        intro hb
        have hb : bla (bla (bla (bla (qB X) (nmd T X (p + 1) = true) 3 (p + 1)) (999 < tV T (p + 2)) 5 (p + 2)) (999 < tV T (p + 3)) 5 (p + 3)) (tkn T X p = true) 3 (p + 3) = none := hb
        obtain ⟨h1, -⟩ := bla_none hb
        obtain ⟨h1, h2⟩ := bla_none h1
        obtain ⟨h1, h3⟩ := bla_none h1
        obtain ⟨h1, -⟩ := bla_none h1
        exact ⟨h1, by omega, by omega⟩
      refine ⟨w1, w2, ⟨n, w3, fun hb => w4 (key hb).1⟩, fun hb => ?_⟩
      obtain ⟨k1, k2, k3⟩ := key hb
      obtain ⟨v1, v2, v3, v4⟩ := w5 k1
      refine ⟨fun x hx => ?_, v2, v3, v4⟩
      rcases List.mem_append.mp (show x ∈ qT X ++ [p] from hx) with hx | hx
      · exact v1 x hx
      · rw [List.mem_singleton.mp hx]; exact ⟨k2, k3⟩
  split at h
  · unfold tDo at h
    split at h
    · cases h
    · obtain ⟨q', e1, h⟩ := ebd_ok h
      injection h with h; injection h with h1 h2; subst h1 h2
      have key : qB (addD T X p) = none → qB X = none ∧ ¬ fC T (qT X) 0 (p + 1) = -1 ∧ ¬ fC T (qT X) 0 (p + 2) = -1 ∧ ¬ fC T (qT X) 0 (p + 1) = fC T (qT X) 0 (p + 2) := by
        intro hb
        have hb : (if fC T (qT X) 0 (p + 1) = -1 then bla (qB X) True 4 (p + 1) else if fC T (qT X) 0 (p + 2) = -1 then bla (qB X) True 4 (p + 2) else bla (qB X) (fC T (qT X) 0 (p + 1) = fC T (qT X) 0 (p + 2)) 5 (p + 2)) = none := hb
        split at hb
        · exact absurd trivial (bla_none hb).2
        split at hb
        · exact absurd trivial (bla_none hb).2
        · exact ⟨(bla_none hb).1, ‹_›, ‹_›, (bla_none hb).2⟩
      refine ⟨w1, w2, ⟨n, w3, fun hb => w4 (key hb).1⟩, fun hb => ?_⟩
      obtain ⟨k1, k2, k3, k4⟩ := key hb
      obtain ⟨v1, v2, v3, v4⟩ := w5 k1
      refine ⟨v1, v2, v3, fun d hd => ?_⟩
      rcases List.mem_append.mp (show d ∈ qD X ++ [doorOf (fC T (qT X) 0 (p + 1)) (fC T (qT X) 0 (p + 2))] from hd) with hd | hd
      · exact v4 d hd
      · rw [List.mem_singleton.mp hd]
        unfold doorOf
        rw [if_neg k2, if_neg k3, if_neg k4]
        rcases fC_nat (T := T) (y := p + 1) (qT X) 0 with a1 | ⟨a, a1, a2, a3⟩
        · exact absurd a1 k2
        rcases fC_nat (T := T) (y := p + 2) (qT X) 0 with b1 | ⟨b, b1, b2, b3⟩
        · exact absurd b1 k3
        rw [a3, b3, nI_clamp (by omega), nI_clamp (by omega)]
        exact ⟨by show a < 14; omega, by show b < 14; omega⟩
  split at h
  · unfold tHi at h
    split at h
    · cases h
    · obtain ⟨q', e1, h⟩ := ebd_ok h
      injection h with h; injection h with h1 h2; subst h1 h2
      have key : qB (addH T X p) = none → qB X = none ∧ tV T (p + 1) ≤ 359 ∧ tV T (p + 2) ≤ 359 ∧ tV T (p + 3) ≤ 20 := by
        intro hb
        have hb : bla (bla (bla (qB X) (359 < tV T (p + 1)) 5 (p + 1)) (359 < tV T (p + 2)) 5 (p + 2)) (20 < tV T (p + 3)) 5 (p + 3) = none := hb
        obtain ⟨h1, h2⟩ := bla_none hb
        obtain ⟨h1, h3⟩ := bla_none h1
        obtain ⟨h1, h4⟩ := bla_none h1
        exact ⟨h1, by omega, by omega, by omega⟩
      refine ⟨w1, w2, ⟨n, w3, fun hb => w4 (key hb).1⟩, fun hb => ?_⟩
      obtain ⟨k1, k2⟩ := key hb
      obtain ⟨v1, v2, v3, v4⟩ := w5 k1
      refine ⟨v1, fun x hx => ?_, v3, v4⟩
      rcases List.mem_append.mp (show x ∈ qH X ++ [p] from hx) with hx | hx
      · exact v2 x hx
      · rw [List.mem_singleton.mp hx]; exact k2
  split at h
  · unfold tSk at h
    split at h
    · cases h
    · obtain ⟨p2, e1, h⟩ := ebd_ok h
      obtain ⟨⟨sp, p3⟩, e2, h⟩ := ebd_ok h
      obtain ⟨p4, e3, h⟩ := ebd_ok h
      obtain ⟨⟨L, p5⟩, e4, h⟩ := ebd_ok h
      obtain ⟨p6, e5, h⟩ := ebd_ok h
      injection h with h; injection h with h1 h2; subst h1 h2
      have key : qB (addS T X p sp L) = none → qB X = none ∧ (sp = true → tV T (p + 3) ≤ 20) := by
        intro hb
        have hb : (if sp = true then bla (bla (qB X) (nmd T X (p + 1) = true) 3 (p + 1)) (20 < tV T (p + 3)) 5 (p + 3) else bla (qB X) (nmd T X (p + 1) = true) 3 (p + 1)) = none := hb
        split at hb
        · obtain ⟨h1, h2⟩ := bla_none hb
          exact ⟨(bla_none h1).1, fun _ => by omega⟩
        · exact ⟨(bla_none hb).1, fun z => absurd z ‹_›⟩
      have hE : wfE L := wfE_S hT e4
      refine ⟨fun s hs => ?_, w2, ⟨n, w3, fun hb => w4 (key hb).1⟩, fun hb => ?_⟩
      · rcases List.mem_append.mp (show s ∈ qS X ++ [(p + 1, (if sp = true then nI (tV T (p + 3)) else 0), L)] from hs) with hs | hs
        · exact w1 s hs
        · rw [List.mem_singleton.mp hs]; exact hE
      · obtain ⟨k1, k2⟩ := key hb
        obtain ⟨v1, v2, v3, v4⟩ := w5 k1
        refine ⟨v1, v2, fun s hs => ?_, v4⟩
        rcases List.mem_append.mp (show s ∈ qS X ++ [(p + 1, (if sp = true then nI (tV T (p + 3)) else 0), L)] from hs) with hs | hs
        · exact v3 s hs
        · rw [List.mem_singleton.mp hs]
          by_cases c : sp = true
          · exact ⟨tV T (p + 3), if_pos c, k2 c⟩
          · exact ⟨0, if_neg c, by omega⟩
  split at h
  · unfold tNe at h
    obtain ⟨q', e1, h⟩ := ebd_ok h
    injection h with h; injection h with h1 h2; subst h1 h2
    have key : qB (addN T X p) = none → qB X = none ∧ tV T (p + 1) ≤ 20 := by
      intro hb
      obtain ⟨h1, h2⟩ := bla_none (show bla (qB X) (20 < tV T (p + 1)) 5 (p + 1) = none from hb)
      exact ⟨h1, by omega⟩
    exact ⟨w1, w2, ⟨tV T (p + 1), rfl, fun hb => (key hb).2⟩, fun hb => w5 (key hb).1⟩
  split at h
  · unfold tRu at h
    split at h
    · cases h
    · obtain ⟨p2, e1, h⟩ := ebd_ok h
      obtain ⟨⟨cd, p3⟩, e2, h⟩ := ebd_ok h
      obtain ⟨p4, e3, h⟩ := ebd_ok h
      injection h with h; injection h with h1 h2; subst h1 h2
      have d2 : ∀ c ∈ [23, 24], 2 ≤ c := by decide
      obtain ⟨y1, y2, y3⟩ := tks_g _ _ _ hp hg d2 e1
      have hC := (xCond_ok hT y2 y3 e2).2.2.2.2
      refine ⟨w1, fun c hc => ?_, ⟨n, w3, w4⟩, w5⟩
      rcases List.mem_append.mp (show c ∈ qR X ++ [cd] from hc) with hc | hc
      · exact w2 c hc
      · rw [List.mem_singleton.mp hc]; exact hC
  · cases h
