/-! CONDs as values, both sides -/
theorem clR_app {v : Nat → Int32} {A B : List (Int32 × Int32)} {st : List Int32 × Bool} : clR v (A ++ B) st = clR v B (clR v A st) := List.foldl_append
theorem clR_cons {v : Nat → Int32} {q : Int32 × Int32} {B : List (Int32 × Int32)} {st : List Int32 × Bool} : clR v (q :: B) st = clR v B (clS v q st) := rfl
theorem clS_num {v : Nat → Int32} {n : Int32} {s : List Int32} {b : Bool} (h : s.length < 24) : clS v (3, n) (s, b) = (n :: s, b) := by
  unfold clS
  rw [if_neg (fun z => absurd (show (3 : Int32) = 27 from z.1) (by decide)), if_pos ⟨rfl, h⟩]
theorem clS_var {v : Nat → Int32} {n z : Int32} {s : List Int32} {b : Bool} (h : s.length < 24) (h0 : 0 ≤ n) (h9 : n < 9) : clS v (28 + n, z) (s, b) = (v n.toNatClampNeg :: s, b) := by
  have e : 28 + n - 28 = n := by grind
  have e1 : ¬ 28 + n = 27 := by grind
  have e2 : ¬ 28 + n = 3 := by grind
  have e3 : 28 ≤ 28 + n := by grind
  unfold clS
  simp only [e]
  rw [if_neg (fun z => e1 z.1), if_neg (fun z => e2 z.1), if_pos ⟨e3, h9, h⟩]
theorem clS_jn {v : Nat → Int32} {k z x y : Int32} {s : List Int32} {b : Bool} (h1 : k ≠ 27) (h2 : k ≠ 3) (h3 : ¬ 28 ≤ k) : clS v (k, z) (y :: x :: s, b) = ((jn k x y b).1 :: s, (jn k x y b).2) := by
  unfold clS
  rw [if_neg (fun z => h1 z.1), if_neg (fun z => h2 z.1), if_neg (fun z => h3 z.1)]
/-- an E's code on top of a stack -/
theorem enc_E {v : Nat → Int32} {s : List Int32} (hs : s.length ≤ 9) : ∀ (L : List Op) (s1 : List Int32) (br : Bool) (d : Nat), hE L s1.length = some d → (∀ o ∈ L, o.1 ≤ 5 ∧ (o.1 = 1 → 0 ≤ o.2 ∧ o.2 < 9)) → s1.length ≤ 15 →
    ∃ s2 b2, clR v (encE L) (s1 ++ s, br) = (s2 ++ s, b2) ∧ s2.length = d ∧ (br = false → (∀ t, rn v L s1 = some t → s2 = t ∧ b2 = false) ∧ (rn v L s1 = none → b2 = true)) ∧ (br = true → b2 = true) := by
  intro L
  induction L with
  | nil =>
    intro s1 br d hd _ _
    refine ⟨s1, br, rfl, Option.some.inj hd, fun hb => ⟨fun t ht => ⟨Option.some.inj ht, hb⟩, fun z => by cases z⟩, id⟩
  | cons o L ih =>
    intro s1 br d hd hw h15
    obtain ⟨w1, w2⟩ := hw o List.mem_cons_self
    have hw2 : ∀ p ∈ L, p.1 ≤ 5 ∧ (p.1 = 1 → 0 ≤ p.2 ∧ p.2 < 9) := fun p hp => hw p (List.mem_cons_of_mem _ hp)
    show ∃ s2 b2, clR v (encE L) (clS v (encO o) (s1 ++ s, br)) = _ ∧ _
    unfold hE at hd
    unfold rn
    by_cases c2 : o.1 < 2
    · rw [if_pos c2] at hd ⊢
      have c15 : s1.length < 15 := by
        apply Nat.lt_of_not_le
        intro z
        rw [if_neg (by omega)] at hd; cases hd
      rw [if_pos c15] at hd
      have e : clS v (encO o) (s1 ++ s, br) = (((if o.1 = 0 then o.2 else v o.2.toNatClampNeg) :: s1) ++ s, br) := by
        have hl : (s1 ++ s).length < 24 := by rw [List.length_append]; omega
        obtain ⟨o1, o2⟩ := o
        simp only at c2 w2
        by_cases c0 : o1 = 0
        · subst c0; exact clS_num hl
        · have c1 : o1 = 1 := by omega
          subst c1; obtain ⟨z1, z2⟩ := w2 rfl
          exact clS_var hl z1 z2
      rw [e]
      exact ih _ br d hd hw2 (by simp; omega)
    · rw [if_neg c2] at hd ⊢
      have cd : 2 ≤ s1.length := by
        apply Nat.le_of_not_lt
        intro z
        rw [if_neg (by omega)] at hd; cases hd
      rw [if_pos cd] at hd
      rcases s1 with _ | ⟨y, _ | ⟨x, s1⟩⟩
      · simp at cd
      · simp at cd
      · have hlen : (y :: x :: s1).length = s1.length + 2 := rfl
        rw [hlen] at hd h15
        have hjn : ∃ k : Int32, (encO o).1 = k ∧ k ≠ 27 ∧ k ≠ 3 ∧ ¬ 28 ≤ k ∧ (o.1 = 5 ∧ y = 0 → jn k x y br = (0, true)) ∧ (¬ (o.1 = 5 ∧ y = 0) → jn k x y br = (opB o.1 x y, br)) := by
          obtain ⟨o1, o2⟩ := o
          simp only at c2 w1 ⊢
          have : o1 = 2 ∨ o1 = 3 ∨ o1 = 4 ∨ o1 = 5 := by omega
          rcases this with rfl | rfl | rfl | rfl
          · exact ⟨6, rfl, by decide, by decide, by decide, fun z => absurd z.1 (by decide), fun _ => rfl⟩
          · exact ⟨7, rfl, by decide, by decide, by decide, fun z => absurd z.1 (by decide), fun _ => rfl⟩
          · exact ⟨8, rfl, by decide, by decide, by decide, fun z => absurd z.1 (by decide), fun _ => rfl⟩
          · refine ⟨9, rfl, by decide, by decide, by decide, fun z => ?_, fun z => ?_⟩
            · show (if y = 0 then _ else _) = _
              rw [if_pos z.2]
            · show (if y = 0 then _ else _) = _
              rw [if_neg (fun w => z ⟨rfl, w⟩)]; rfl
        obtain ⟨k, k1, k2, k3, k4, k5, k6⟩ := hjn
        have e : clS v (encO o) ((y :: x :: s1) ++ s, br) = (((jn k x y br).1 :: s1) ++ s, (jn k x y br).2) := by
          have : encO o = (k, (encO o).2) := by rw [← k1]
          rw [this]; exact clS_jn k2 k3 k4
        rw [e]
        simp only
        by_cases c5 : o.1 = 5 ∧ y = 0
        · rw [k5 c5, if_pos c5]
          obtain ⟨s2, b2, a1, a2, -, a4⟩ := ih (0 :: s1) true d hd hw2 (by simp; omega)
          exact ⟨s2, b2, a1, a2, fun _ => ⟨fun t ht => (by cases ht), fun _ => a4 rfl⟩, fun _ => a4 rfl⟩
        · rw [k6 c5, if_neg c5]
          exact ih (opB o.1 x y :: s1) br d hd hw2 (by simp; omega)
theorem enc_E1 {v : Nat → Int32} {s : List Int32} (hs : s.length ≤ 9) {L : List Op} (hL : wfE L) (br : Bool) : ∃ x b2, clR v (encE L) (s, br) = (x :: s, b2) ∧ (br = false → (∀ t, evE v L = some t → x = t ∧ b2 = false) ∧ (evE v L = none → b2 = true)) ∧ (br = true → b2 = true) := by
  obtain ⟨s2, b2, a1, a2, a3, a4⟩ := enc_E (v := v) hs L [] br 1 hL.1 hL.2 (by simp)
  rcases s2 with _ | ⟨x, _ | ⟨y, s2⟩⟩
  · simp at a2
  · refine ⟨x, b2, a1, fun hb => ?_, a4⟩
    obtain ⟨c1, c2⟩ := a3 hb
    unfold evE
    cases hr : rn v L [] with
    | none => exact ⟨fun t z => (by cases z), fun _ => c2 hr⟩
    | some t =>
      obtain ⟨e1, e2⟩ := c1 t hr
      subst e1
      exact ⟨fun u z => ⟨Option.some.inj z, e2⟩, fun z => (by cases z)⟩
  · simp at a2
def litV (v : Nat → Int32) (l : Lt) : Bool := match evE v l.2.2.1, evE v l.2.2.2 with
  | some x, some y => cmpV (cmpC l.2.1) x y != l.1
  | _, _ => l.1
theorem cmpC_jn {n : Nat} {x y : Int32} {b : Bool} : jn (cmpC n) x y b = (if (cmpV (cmpC n) x y && !b) = true then 1 else 0, false) ∧ cmpC n ≠ 27 ∧ cmpC n ≠ 3 ∧ ¬ 28 ≤ cmpC n := by
  unfold cmpC
  split
  · exact ⟨rfl, by decide, by decide, by decide⟩
  · exact ⟨rfl, by decide, by decide, by decide⟩
  · exact ⟨rfl, by decide, by decide, by decide⟩
  · exact ⟨rfl, by decide, by decide, by decide⟩
theorem enc_L {v : Nat → Int32} {s : List Int32} (hs : s.length ≤ 8) {l : Lt} (hl : wfL l) : clR v (encL l) (s, false) = ((if litV v l then 1 else 0) :: s, false) := by
  obtain ⟨nt, op, A, B⟩ := l
  obtain ⟨-, hA, hB⟩ := hl
  simp only at hA hB
  obtain ⟨x, b1, a1, a2, -⟩ := enc_E1 (v := v) (s := s) (by omega) hA false
  obtain ⟨y, b2, c1, c2, c3⟩ := enc_E1 (v := v) (s := x :: s) (by simp; omega) hB b1
  obtain ⟨j1, j2, j3, j4⟩ := cmpC_jn (n := op) (x := x) (y := y) (b := b2)
  unfold encL litV
  simp only
  rw [clR_app, clR_app, clR_app, a1, c1, clR_cons, clS_jn j2 j3 j4, j1]
  obtain ⟨a3, a4⟩ := a2 rfl
  have key : (cmpV (cmpC op) x y && !b2) = (match evE v A, evE v B with
      | some x, some y => cmpV (cmpC op) x y
      | _, _ => false) := by
    cases hA' : evE v A with
    | none => rw [c3 (a4 hA')]; simp
    | some x' =>
      obtain ⟨e1, e2⟩ := a3 x' hA'
      obtain ⟨c4, c5⟩ := c2 e2
      cases hB' : evE v B with
      | none => rw [c5 hB']; simp
      | some y' =>
        obtain ⟨e3, e4⟩ := c4 y' hB'
        rw [e1, e3, e4]; simp
  rw [key]
  have hnot : ∀ c : Bool, clR v (if nt = true then [(27, 0)] else []) ((if c = true then (1 : Int32) else 0) :: s, false) = ((if (c != nt) = true then 1 else 0) :: s, false) := by
    intro c
    cases nt with
    | true => cases c <;> rfl
    | false => cases c <;> rfl
  show clR v _ (_ :: s, false) = _
  rw [hnot]
  cases hA' : evE v A with
  | none => simp
  | some x' =>
    cases hB' : evE v B with
    | none => simp
    | some y' => rfl
def rowV (v : Nat → Int32) (r : List Lt) : Bool := r.all (litV v)
def conV (v : Nat → Int32) (c : Cd) : Bool := c.any (rowV v)
theorem and01 (p q : Bool) : (if p then (1 : Int32) else 0) &&& (if q then 1 else 0) = if (p && q) then 1 else 0 := by cases p <;> cases q <;> decide
theorem or01 (p q : Bool) : (if p then (1 : Int32) else 0) ||| (if q then 1 else 0) = if (p || q) then 1 else 0 := by cases p <;> cases q <;> decide
theorem enc_R' {v : Nat → Int32} {s : List Int32} (hs : s.length ≤ 7) : ∀ (r : List Lt) (a : Bool), (∀ l ∈ r, wfL l) → clR v (r.flatMap (fun l => encL l ++ [(26, 0)])) ((if a then 1 else 0) :: s, false) = ((if (a && rowV v r) then 1 else 0) :: s, false) := by
  intro r
  induction r with
  | nil => intro a _; show _ = ((if (a && true) = true then (1 : Int32) else 0) :: s, false); rw [Bool.and_true]; rfl
  | cons l r ih =>
    intro a hw
    rw [List.flatMap_cons, clR_app, clR_app, enc_L (by simp; omega) (hw l List.mem_cons_self), clR_cons, clS_jn (by decide) (by decide) (by decide)]
    show clR v _ (clR v [] ((jn 26 (if a then 1 else 0) (if litV v l then 1 else 0) false).1 :: s, false)) = _
    have e : (jn 26 (if a then 1 else 0) (if litV v l then 1 else 0) false).1 = if (a && litV v l) then 1 else 0 := and01 a (litV v l)
    rw [e]
    show clR v _ (_ :: s, false) = _
    rw [ih (a && litV v l) (fun l hl => hw l (List.mem_cons_of_mem _ hl)), Bool.and_assoc]
    rfl
theorem enc_R {v : Nat → Int32} {s : List Int32} (hs : s.length ≤ 7) {r : List Lt} (hr : r ≠ []) (hw : ∀ l ∈ r, wfL l) : clR v (encR r) (s, false) = ((if rowV v r then 1 else 0) :: s, false) := by
  cases r with
  | nil => exact absurd rfl hr
  | cons l r =>
    unfold encR
    rw [clR_app, enc_L (by omega) (hw l List.mem_cons_self), enc_R' hs r (litV v l) (fun l hl => hw l (List.mem_cons_of_mem _ hl))]
    rfl
theorem enc_C' {v : Nat → Int32} : ∀ (c : Cd) (a : Bool), (∀ r ∈ c, r ≠ [] ∧ ∀ l ∈ r, wfL l) → clR v (c.flatMap (fun r => encR r ++ [(25, 0)])) ([if a then 1 else 0], false) = ([if (a || conV v c) then 1 else 0], false) := by
  intro c
  induction c with
  | nil => intro a _; show _ = ([if (a || false) = true then (1 : Int32) else 0], false); rw [Bool.or_false]; rfl
  | cons r c ih =>
    intro a hw
    obtain ⟨h1, h2⟩ := hw r List.mem_cons_self
    rw [List.flatMap_cons, clR_app, clR_app, enc_R (by simp) h1 h2, clR_cons, clS_jn (by decide) (by decide) (by decide)]
    show clR v _ (clR v [] ([(jn 25 (if a then 1 else 0) (if rowV v r then 1 else 0) false).1], false)) = _
    have e : (jn 25 (if a then 1 else 0) (if rowV v r then 1 else 0) false).1 = if (a || rowV v r) then 1 else 0 := or01 a (rowV v r)
    rw [e]
    show clR v _ ([_], false) = _
    rw [ih (a || rowV v r) (fun r hr => hw r (List.mem_cons_of_mem _ hr)), Bool.or_assoc]
    rfl
/-- the class's work on a COND -/
theorem enc_C {v : Nat → Int32} {c : Cd} (hc : wfC c) : clV (clR v (encC c) ([], false)) = if conV v c then 1 else 0 := by
  obtain ⟨h0, h1⟩ := hc
  cases c with
  | nil => exact absurd rfl h0
  | cons r c =>
    obtain ⟨h2, h3⟩ := h1 r List.mem_cons_self
    unfold encC
    rw [clR_app, enc_R (by simp) h2 h3, enc_C' c (rowV v r) (fun r hr => h1 r (List.mem_cons_of_mem _ hr))]
    rfl
/-- the class's work on an E -/
theorem enc_EV {v : Nat → Int32} {L : List Op} (hL : wfE L) : clV (clR v (encE L) ([], false)) = (evE v L).getD 0 := by
  obtain ⟨x, b2, a1, a2, -⟩ := enc_E1 (v := v) (s := []) (by simp) hL false
  rw [a1]
  obtain ⟨a3, a4⟩ := a2 rfl
  cases h : evE v L with
  | none => rw [a4 h]; rfl
  | some t => obtain ⟨e1, e2⟩ := a3 t h; rw [e1, e2]; rfl
/-- the model: the LITs at their places -/
def Lits (σ : Mm) (l0 : Nat) (F : List (Nat × Lt)) : Prop := ∀ j q, F[j]? = some q →
  mA σ 3 0 37 (l0 + j) = nI q.1 ∧ mA σ 3 0 32 (l0 + j) = (if q.2.1 then 1 else 0) ∧ mA σ 3 0 33 (l0 + j) = cmpM q.2.2.1 ∧
  segM σ 0 (mA σ 3 0 34 (l0 + j)) (mA σ 3 0 35 (l0 + j)) q.2.2.2.1 ∧ segM σ 0 (mA σ 3 0 35 (l0 + j)) (mA σ 3 0 36 (l0 + j)) q.2.2.2.2
theorem Lits.fr {σ τ : Mm} {l0 : Nat} {F : List (Nat × Lt)} (h : Lits σ l0 F) (hf : Fr WQ σ τ) : Lits τ l0 F := by
  unfold Lits segM at h ⊢
  rw [hf.row (t := 3) (k := 29) 0 rfl, hf.row (t := 3) (k := 30) 0 rfl, hf.row (t := 3) (k := 32) 0 rfl, hf.row (t := 3) (k := 33) 0 rfl, hf.row (t := 3) (k := 34) 0 rfl, hf.row (t := 3) (k := 35) 0 rfl, hf.row (t := 3) (k := 36) 0 rfl, hf.row (t := 3) (k := 37) 0 rfl]
  exact h
theorem segM.fr {σ τ : Mm} {b : Nat} {x y : Int32} {L : List Op} (h : segM σ b x y L) (hf : Fr WQ σ τ) : segM τ b x y L := by
  unfold segM at h ⊢
  rw [hf.row (t := 3) (k := 29) 0 rfl, hf.row (t := 3) (k := 30) 0 rfl]
  exact h
theorem s_isLit {σ : Mm} {l0 k : Nat} {F : List (Nat × Lt)} {q : Nat × Lt} (h200 : l0 + k < 200) (hF : Lits σ l0 F) (hq : F[k]? = some q) (hw : wfL q.2) : Ok (F_X12_isLit (nI (l0 + k)) σ) (fun r => r.1 = if litV (mA σ 3 0 56) q.2 then 1 else 0) := by
  obtain ⟨-, g1, g2, g3, g4⟩ := hF k q hq
  obtain ⟨nn, nt, op, A, B⟩ := q
  obtain ⟨h3, hA, hB⟩ := hw
  simp only at g1 g2 g3 g4 hA hB h3
  have hck : (nI (l0 + k)).toNatClampNeg = l0 + k := nI_clamp (by omega)
  have ik : inb (nI (l0 + k)) 1000 = true := by clear hF hq g1 g2 g3 g4 hA hB; grind [gI, gB, gC]
  have iB : isB (if nt = true then (1 : Int32) else 0) = true := by cases nt <;> decide
  unfold F_X12_isLit F_X12_isLit_16
  rw [hck]
  refine Ok_t ik (Ok_t ik (Ok_B ((s_sum g3 hA).frI fr_X12_sum) (fun x τ hx => ?_)))
  obtain ⟨hx, f1⟩ := hx
  have f1' : Fr WQ σ τ := f1.sub rfl
  have r1 : mA τ 3 0 32 (l0 + k) = if nt = true then 1 else 0 := by rw [f1.row (t := 3) (k := 32) 0 rfl]; exact g1
  unfold litV
  simp only
  cases hA' : evE (mA σ 3 0 56) A with
  | none =>
    rw [hA'] at hx
    obtain ⟨-, hb⟩ := hx
    refine Ok_f (by rw [show mA τ 3 0 0 69 = 1 from hb]; decide) (Ok_t ik (Ok_t (by rw [r1]; exact iB) (Ok_r ?_)))
    exact r1
  | some x' =>
    rw [hA'] at hx
    obtain ⟨hx1, hb⟩ := hx
    have hx1 : x = x' := hx1
    subst hx1
    have g4' : segM τ 0 (mA τ 3 0 35 (l0 + k)) (mA τ 3 0 36 (l0 + k)) B := by
      rw [f1.row (t := 3) (k := 35) 0 rfl, f1.row (t := 3) (k := 36) 0 rfl]; exact g4.fr f1'
    refine Ok_t hb (Ok_t ik (Ok_t ik (Ok_B ((s_sum g4' hB).frI fr_X12_sum) (fun y υ hy => ?_))))
    obtain ⟨hy, f2⟩ := hy
    have f2 : Fr W_X12_sum τ υ := f2
    rw [f1.row (t := 3) (k := 56) 0 rfl] at hy
    have r2 : mA υ 3 0 32 (l0 + k) = if nt = true then 1 else 0 := by rw [f2.row (t := 3) (k := 32) 0 rfl]; exact r1
    have r3 : mA υ 3 0 33 (l0 + k) = cmpM op := by rw [f2.row (t := 3) (k := 33) 0 rfl, f1.row (t := 3) (k := 33) 0 rfl]; exact g2
    have iB2 : isB (mA υ 3 0 32 (l0 + k)) = true := by rw [r2]; exact iB
    unfold F_X12_isLit_47 F_X12_isLit_147
    rw [hck, r2, r3]
    cases hB' : evE (mA σ 3 0 56) B with
    | none =>
      rw [hB'] at hy
      obtain ⟨-, hb2⟩ := hy
      refine Ok_f (by rw [show mA υ 3 0 0 69 = 1 from hb2]; decide) (Ok_t ik (Ok_t iB (Ok_r rfl)))
    | some y' =>
      rw [hB'] at hy
      obtain ⟨hy1, hb2⟩ := hy
      have hy1 : y = y' := hy1
      subst hy1
      have fin : ∀ (z : Int32) (c : Bool), z = (if c = true then 1 else 0) → Ok (if inb (nI (l0 + k)) 1000 = true then if z = (if nt = true then (1 : Int32) else 0) then some ((0 : Int32), υ) else some (1, υ) else none) (fun r => r.1 = if (c != nt) = true then 1 else 0) := by
        intro z c hz
        rw [hz]
        refine Ok_t ik ?_
        cases c <;> cases nt
        · exact Ok_t rfl (Ok_r rfl)
        · exact Ok_f (by decide) (Ok_r rfl)
        · exact Ok_f (by decide) (Ok_r rfl)
        · exact Ok_t rfl (Ok_r rfl)
      refine Ok_t hb2 (Ok_t ik ?_)
      have hop : op = 0 ∨ op = 1 ∨ op = 2 ∨ op = 3 := by omega
      rcases hop with rfl | rfl | rfl | rfl
      · refine Ok_t rfl ?_
        by_cases c : x = y
        · exact Ok_t c (fin 1 (cmpV (cmpC 0) x y) (by rw [show cmpV (cmpC 0) x y = decide (x = y) from rfl, decide_eq_true c]; rfl))
        · exact Ok_f c (fin 0 (cmpV (cmpC 0) x y) (by rw [show cmpV (cmpC 0) x y = decide (x = y) from rfl, decide_eq_false c]; rfl))
      · refine Ok_f (by decide) (Ok_t ik (Ok_t rfl ?_))
        by_cases c : x = y
        · exact Ok_t c (fin 0 (cmpV (cmpC 1) x y) (by rw [show cmpV (cmpC 1) x y = decide (x ≠ y) from rfl, decide_eq_false (not_not_intro c)]; rfl))
        · exact Ok_f c (fin 1 (cmpV (cmpC 1) x y) (by rw [show cmpV (cmpC 1) x y = decide (x ≠ y) from rfl, decide_eq_true (p := x ≠ y) c]; rfl))
      · refine Ok_f (by decide) (Ok_t ik (Ok_f (by decide) (Ok_t ik (Ok_t rfl ?_))))
        by_cases c : y < x
        · exact Ok_t c (fin 0 (cmpV (cmpC 2) x y) (by rw [show cmpV (cmpC 2) x y = decide (x ≤ y) from rfl, decide_eq_false (show ¬ x ≤ y by clear fin hF hq g1 g2 g3 g4 hA hB; grind)]; rfl))
        · exact Ok_f c (fin 1 (cmpV (cmpC 2) x y) (by rw [show cmpV (cmpC 2) x y = decide (x ≤ y) from rfl, decide_eq_true (show x ≤ y by clear fin hF hq g1 g2 g3 g4 hA hB; grind)]; rfl))
      · refine Ok_f (by decide) (Ok_t ik (Ok_f (by decide) (Ok_t ik (Ok_f (by decide) ?_))))
        by_cases c : y ≤ x
        · exact Ok_t c (fin 0 (cmpV (cmpC 3) x y) (by rw [show cmpV (cmpC 3) x y = decide (x < y) from rfl, decide_eq_false (show ¬ x < y by clear fin hF hq g1 g2 g3 g4 hA hB; grind)]; rfl))
        · exact Ok_f c (fin 1 (cmpV (cmpC 3) x y) (by rw [show cmpV (cmpC 3) x y = decide (x < y) from rfl, decide_eq_true (show x < y by clear fin hF hq g1 g2 g3 g4 hA hB; grind)]; rfl))
