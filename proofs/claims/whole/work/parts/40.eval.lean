/-! Es and CONDs: what their codes come to -/
def opB (c : Nat) (x y : Int32) : Int32 := if c = 2 then x + y else if c = 3 then x - y else if c = 4 then x * y else x / y
/-- an E's work on a stack, its top first; none: it divides by 0 -/
def rn (v : Nat → Int32) : List Op → List Int32 → Option (List Int32)
  | [], s => some s
  | o :: r, s => if o.1 < 2 then rn v r ((if o.1 = 0 then o.2 else v o.2.toNatClampNeg) :: s) else
      match s with
      | y :: x :: s => if o.1 = 5 ∧ y = 0 then none else rn v r (opB o.1 x y :: s)
      | _ => none
def evE (v : Nat → Int32) (L : List Op) : Option Int32 := match rn v L [] with
  | some (x :: _) => some x
  | _ => none
/-- a stack in a row, its top first -/
def SM (f : Nat → Int32) : List Int32 → Prop
  | [] => True
  | x :: s => f s.length = x ∧ SM f s
theorem SM_upd {f : Nat → Int32} {s : List Int32} {j : Nat} {v : Int32} (h : SM f s) (hj : s.length ≤ j) : SM (upd f j v) s := by
  induction s with
  | nil => trivial
  | cons x s ih =>
    have hl : (x :: s).length = s.length + 1 := rfl
    exact ⟨by rw [upd_at, if_neg (by omega)]; exact h.1, ih h.2 (by omega)⟩
theorem SM_push {f : Nat → Int32} {s : List Int32} {v : Int32} (h : SM f s) : SM (upd f s.length v) (v :: s) := ⟨by rw [upd_at, if_pos rfl], SM_upd h (Nat.le_refl _)⟩
theorem ofN {k : Nat} (h : k ≤ 5) : (nI k < 2 ↔ k < 2) ∧ (nI k = 0 ↔ k = 0) ∧ (nI k = 5 ↔ k = 5) ∧ (nI k = 2 ↔ k = 2) ∧ (nI k = 3 ↔ k = 3) ∧ (nI k = 4 ↔ k = 4) ∧ (2 ≤ nI k ↔ 2 ≤ k) :=
  ⟨nI_ltI (b := 2) (by omega) (by decide), nI_eq (b := 0) (by omega) (by decide), nI_eq (b := 5) (by omega) (by decide), nI_eq (b := 2) (by omega) (by decide), nI_eq (b := 3) (by omega) (by decide), nI_eq (b := 4) (by omega) (by decide), nI_leI (a := 2) (by decide) (by omega)⟩
/-- the model's answer of an E -/
def mdV (o : Option (List Int32)) (r : Int32 × Mm) : Prop := match o with
  | some (x :: _) => r.1 = x ∧ mA r.2 3 0 0 69 = 0
  | _ => r.1 = 0 ∧ mA r.2 3 0 0 69 = 1
theorem sum_10 {C E v : Nat → Int32} {e : Nat} (he : e ≤ 500) : ∀ (m : Nat) (R : List Op) (k : Nat) (s : List Int32) (σ : Mm), R.length < m → mA σ 3 0 29 = C → mA σ 3 0 30 = E → mA σ 3 0 56 = v → k + R.length = e → (∀ j o, R[j]? = some o → C (k + j) = nI o.1 ∧ E (k + j) = o.2) → hE R s.length = some 1 → (∀ o ∈ R, o.1 ≤ 5 ∧ (o.1 = 1 → 0 ≤ o.2 ∧ o.2 < 9)) → SM (mA σ 3 0 57) s → s.length ≤ 15 → mA σ 3 0 0 69 = 0 →
    Ok (F_X12_sum_10 m (nI e) (nI s.length) (nI k) σ) (mdV (rn v R s)) := by
  intro m
  induction m with
  | zero => intro R k s σ h; omega
  | succ m ih =>
    intro R k s σ hm hC hE' hv hk hseg hd hw hs hs15 hb
    change Ok (B_X12_sum_10 (F_X12_sum_10 m) _ _ _ _) _
    unfold B_X12_sum_10
    cases R with
    | nil =>
      have : k = e := by simpa using hk
      subst this
      have h1 : s.length = 1 := by
        have : some s.length = some 1 := hd
        exact Option.some.inj this
      refine Ok_t (nI_le (Nat.le_refl _) (by omega)) (Ok_t (by decide) (Ok_r ?_))
      match s, h1, hs with
      | [x], _, hs =>
        show _ = _ ∧ _ = _
        exact ⟨hs.1, hb⟩
    | cons o R =>
      have hl : (o :: R).length = R.length + 1 := rfl
      have hke : k < e := by omega
      have hck : (nI k).toNatClampNeg = k := nI_clamp (by omega)
      have i25 : inb (nI k) 2500 = true := by clear ih hseg hd hw hs hC hE' hv hb; grind [gI, gB, gC]
      obtain ⟨g1, g2⟩ := hseg 0 o rfl
      simp only [Nat.add_zero] at g1 g2
      obtain ⟨w1, w2⟩ := hw o List.mem_cons_self
      obtain ⟨t1, t2, t3, t4, t5, t6, t7⟩ := ofN w1
      have hseg2 : ∀ j p, R[j]? = some p → C (k + 1 + j) = nI p.1 ∧ E (k + 1 + j) = p.2 := fun j p hj => by
        have := hseg (j + 1) p hj
        rw [show k + (j + 1) = k + 1 + j by omega] at this; exact this
      have hw2 : ∀ p ∈ R, p.1 ≤ 5 ∧ (p.1 = 1 → 0 ≤ p.2 ∧ p.2 < 9) := fun p hp => hw p (List.mem_cons_of_mem _ hp)
      refine Ok_f (nI_ge hke (by omega)) (Ok_t i25 ?_)
      rw [hck, hC, g1, hE', g2]
      unfold hE at hd
      by_cases c2 : o.1 < 2
      · rw [if_pos c2] at hd
        have c15 : s.length < 15 := by
          apply Nat.lt_of_not_le
          intro z
          rw [if_neg (by omega)] at hd; cases hd
        rw [if_pos c15] at hd
        have hcs : (nI s.length).toNatClampNeg = s.length := nI_clamp (by omega)
        have i5 : inb (nI s.length) 500 = true := by clear ih hseg hd hw hs hC hE' hv hb hseg2 hw2 g1 g2 t1 t2 t3 t4 t5 t6 t7; grind [gI, gB, gC]
        have go : ∀ x : Int32, x = (if o.1 = 0 then o.2 else v o.2.toNatClampNeg) → Ok (F_X12_sum_63 (F_X12_sum_10 m) (nI e) (nI s.length) (nI k) x (nI s.length) σ) (mdV (rn v (o :: R) s)) := by
          intro x hx
          unfold F_X12_sum_63 F_X12_sum_64 F_X12_sum_166
          refine Ok_t i5 ?_
          rw [hcs, nI_1, nI_1]
          have := ih R (k + 1) (x :: s) (setA σ 3 0 57 (upd (mA σ 3 0 57) s.length x)) (by omega) (by rw [mA_R]; simp; exact hC) (by rw [mA_R]; simp; exact hE') (by rw [mA_R]; simp; exact hv) (by omega) hseg2 hd hw2 (by rw [mA_R]; simp; exact SM_push hs) (by simp; omega) (by simp only [mA_A, mL_A, mP_A, mA_L, mL_L, mP_L, upd_at]; simp; exact hb)
          unfold rn
          rw [if_pos c2, ← hx]
          exact this
        refine Ok_f (fun z => by have := t7.mp z; omega) ?_
        by_cases c0 : o.1 = 0
        · refine Ok_t (t2.mpr c0) (Ok_t i25 (go _ ?_))
          rw [if_pos c0]
        · refine Ok_f (fun z => c0 (t2.mp z)) (Ok_t i25 ?_)
          obtain ⟨z1, z2⟩ := w2 (by omega)
          refine Ok_t (by generalize o.2 = z at *; clear ih hseg hd hw hs hC hE' hv hb hseg2 hw2 g1 g2 t1 t2 t3 t4 t5 t6 t7 go w2 i25 i5; grind [gI, gB, gC]) (go _ ?_)
          rw [if_neg c0, hv]
      · rw [if_neg c2] at hd
        have cd : 2 ≤ s.length := by
          apply Nat.le_of_not_lt
          intro z
          rw [if_neg (by omega)] at hd; cases hd
        rw [if_pos cd] at hd
        refine Ok_t (t7.mpr (by omega)) ?_
        match s, cd, hs, hs15, hd with
        | y :: x :: s, _, hs, hs15, hd =>
          have hlen : (y :: x :: s).length = s.length + 2 := rfl
          rw [hlen] at hs15 hd ⊢
          have e1 : nI (s.length + 2) - 1 = nI (s.length + 1) := nI_pred (s.length + 1)
          have e2 : nI (s.length + 2) - 2 = nI s.length := pk_sub (b := 2) (by omega)
          have e3 : nI (s.length + 2) + -1 = nI (s.length + 1) := pk_m1 (s.length + 1)
          have e4 : nI (s.length + 1) - 1 = nI s.length := nI_pred s.length
          have k1 : (nI (s.length + 1)).toNatClampNeg = s.length + 1 := nI_clamp (by omega)
          have k2 : (nI s.length).toNatClampNeg = s.length := nI_clamp (by omega)
          have i1 : inb (nI (s.length + 1)) 500 = true := by clear ih hseg hd hw hs hC hE' hv hb hseg2 hw2 g1 g2 t1 t2 t3 t4 t5 t6 t7 e1 e2 e3 e4; grind [gI, gB, gC]
          have i2 : inb (nI s.length) 500 = true := by clear ih hseg hd hw hs hC hE' hv hb hseg2 hw2 g1 g2 t1 t2 t3 t4 t5 t6 t7 e1 e2 e3 e4 i1; grind [gI, gB, gC]
          unfold F_X12_sum_80 F_X12_sum_90 F_X12_sum_109 F_X12_sum_111 F_X12_sum_165 F_X12_sum_166
          have hs1 : mA σ 3 0 57 (s.length + 1) = y := hs.1
          have hs2 : mA σ 3 0 57 s.length = x := hs.2.1
          rw [e1, e2, e3, e4, k1, k2, hs1, hs2, nI_1]
          have go : ¬ (o.1 = 5 ∧ y = 0) → Ok (F_X12_sum_10 m (nI e) (nI (s.length + 1)) (nI (k + 1)) (setA σ 3 0 57 (upd (mA σ 3 0 57) s.length (opB o.1 x y)))) (mdV (rn v (o :: R) (y :: x :: s))) := by
            intro hn
            have := ih R (k + 1) (opB o.1 x y :: s) (setA σ 3 0 57 (upd (mA σ 3 0 57) s.length (opB o.1 x y))) (by omega) (by rw [mA_R]; simp; exact hC) (by rw [mA_R]; simp; exact hE') (by rw [mA_R]; simp; exact hv) (by omega) hseg2 hd hw2 (by rw [mA_R]; simp; exact SM_push hs.2.2) (by simp; omega) (by simp only [mA_A, mL_A, mP_A, mA_L, mL_L, mP_L, upd_at]; simp; exact hb)
            unfold rn
            rw [if_neg c2]
            simp only
            rw [if_neg hn]
            exact this
          refine Ok_t i1 (Ok_t i2 ?_)
          have c1 : ¬ o.1 = 0 := by omega
          by_cases c5 : o.1 = 5
          · refine Ok_t (t3.mpr c5) ?_
            by_cases cy : y = 0
            · refine Ok_t cy (Ok_r ?_)
              unfold rn
              rw [if_neg c2]
              simp only
              rw [if_pos ⟨c5, cy⟩]
              show _ = _ ∧ _ = _
              simp only [mA_A, mL_A, mP_A, mA_L, mL_L, mP_L, upd_at]; simp
            · refine Ok_f cy (Ok_f (fun z => by have := t4.mp z; omega) (Ok_f (fun z => by have := t5.mp z; omega) (Ok_f (fun z => by have := t6.mp z; omega) (Ok_t cy (Ok_t i2 ?_)))))
              have := go (fun z => cy z.2)
              unfold opB at this
              rw [if_neg (by omega), if_neg (by omega), if_neg (by omega)] at this
              exact this
          · refine Ok_f (fun z => c5 (t3.mp z)) ?_
            have := go (fun z => c5 z.1)
            unfold opB at this
            by_cases c2' : o.1 = 2
            · rw [if_pos c2'] at this
              exact Ok_t (t4.mpr c2') (Ok_t i2 this)
            rw [if_neg c2'] at this
            by_cases c3 : o.1 = 3
            · rw [if_pos c3] at this
              exact Ok_f (fun z => c2' (t4.mp z)) (Ok_t (t5.mpr c3) (Ok_t i2 this))
            rw [if_neg c3] at this
            have c4 : o.1 = 4 := by omega
            rw [if_pos c4] at this
            exact Ok_f (fun z => c2' (t4.mp z)) (Ok_f (fun z => c3 (t5.mp z)) (Ok_t (t6.mpr c4) (Ok_t i2 this)))
/-- the model: an E at its place in the codes -/
theorem s_sum {σ : Mm} {x y : Int32} {L : List Op} (hL : segM σ 0 x y L) (hw : wfE L) : Ok (F_X12_sum x y σ) (fun r => match evE (mA σ 3 0 56) L with
    | some z => r.1 = z ∧ mA r.2 3 0 0 69 = 0
    | none => r.1 = 0 ∧ mA r.2 3 0 0 69 = 1) := by
  obtain ⟨c, rfl, rfl, h5, hseg⟩ := hL
  simp only [Nat.mul_zero, Nat.zero_add] at hseg
  unfold F_X12_sum F_X12_sum_7
  have := sum_10 (C := mA σ 3 0 29) (E := mA σ 3 0 30) (v := mA σ 3 0 56) h5 FU L c [] (setA σ 3 0 0 (upd (mA σ 3 0 0) 69 0)) (by show _ < 1000000; omega) (by rw [mA_R]; simp) (by rw [mA_R]; simp) (by rw [mA_R]; simp) rfl hseg hw.1 hw.2 trivial (by simp) (by simp only [mA_A, mL_A, mP_A, mA_L, mL_L, mP_L, upd_at]; simp)
  refine Ok.mono this fun r hr => ?_
  unfold evE
  unfold mdV at hr
  match rn (mA σ 3 0 56) L [], hr with
  | some (z :: _), hr => exact hr
  | some [], hr => exact hr
  | none, hr => exact hr
/-- the class's signs -/
def cmpV (k a b : Int32) : Bool := if k = 10 then decide (a = b) else if k = 11 then decide (a ≠ b) else if k = 12 then decide (a < b) else if k = 13 then decide (a ≤ b) else false
def jn (k a b : Int32) (br : Bool) : Int32 × Bool := if k = 6 then (a + b, br) else if k = 7 then (a - b, br) else if k = 8 then (a * b, br) else if k = 9 then (if b = 0 then (0, true) else (a / b, br)) else if k = 25 then (a ||| b, br) else if k = 26 then (a &&& b, br) else (if (cmpV k a b && !br) = true then 1 else 0, false)
theorem s_joined {σ : Mm} {i : Nat} {k a b : Int32} {br : Bool} (hb : mA σ 1 i 10 6 = if br then 1 else 0) : Ok (F_X0_joined i k a b σ) (fun r => r.1 = (jn k a b br).1 ∧ mA r.2 1 i 10 6 = if (jn k a b br).2 then 1 else 0) := by
  unfold F_X0_joined F_X0_joined_89 F_X0_joined_102 jn
  by_cases k6 : k = 6
  · rw [if_pos k6, if_pos k6]; exact Ok_r ⟨rfl, hb⟩
  rw [if_neg k6, if_neg k6]
  by_cases k7 : k = 7
  · rw [if_pos k7, if_pos k7]; exact Ok_r ⟨rfl, hb⟩
  rw [if_neg k7, if_neg k7]
  by_cases k8 : k = 8
  · rw [if_pos k8, if_pos k8]; exact Ok_r ⟨rfl, hb⟩
  rw [if_neg k8, if_neg k8]
  by_cases k9 : k = 9
  · rw [if_pos k9, if_pos k9]
    by_cases b0 : b = 0
    · rw [if_pos b0, if_pos b0]; refine Ok_r ⟨rfl, ?_⟩; simp only [mA_A, mL_A, mP_A, mA_L, mL_L, mP_L, upd_at]; simp
    · rw [if_neg b0, if_neg b0, if_pos b0]; exact Ok_r ⟨rfl, hb⟩
  rw [if_neg k9, if_neg k9]
  by_cases k25 : k = 25
  · rw [if_pos k25, if_pos k25]; exact Ok_r ⟨rfl, hb⟩
  rw [if_neg k25, if_neg k25]
  by_cases k26 : k = 26
  · rw [if_pos k26, if_pos k26]; exact Ok_r ⟨rfl, hb⟩
  rw [if_neg k26, if_neg k26]
  have fin : ∀ (z : Int32) (c : Bool), z = (if c then 1 else 0) → Ok (F_X0_compared_96 i z σ) (fun r => r.1 = (if (c && !br) = true then 1 else 0) ∧ mA r.2 1 i 10 6 = 0) := by
    intro z c hz
    unfold F_X0_compared_96 F_X0_compared_112 F_X0_compared_113 F_X0_compared_120
    rw [hb, hz]
    cases c <;> cases br
    · refine Ok_t (by decide) (Ok_t (by decide) (Ok_r ⟨rfl, ?_⟩)); simp only [mA_A, mL_A, mP_A, mA_L, mL_L, mP_L, upd_at]; simp
    · refine Ok_t (by decide) (Ok_t (by decide) (Ok_r ⟨rfl, ?_⟩)); simp only [mA_A, mL_A, mP_A, mA_L, mL_L, mP_L, upd_at]; simp
    · refine Ok_f (by decide) (Ok_t (by decide) (Ok_f (by decide) (Ok_r ⟨rfl, ?_⟩))); simp only [mA_A, mL_A, mP_A, mA_L, mL_L, mP_L, upd_at]; simp
    · refine Ok_f (by decide) (Ok_f (by decide) (Ok_t (by decide) (Ok_r ⟨rfl, ?_⟩))); simp only [mA_A, mL_A, mP_A, mA_L, mL_L, mP_L, upd_at]; simp
  have key : Ok (F_X0_compared i k a b σ) (fun r => r.1 = (if (cmpV k a b && !br) = true then 1 else 0) ∧ mA r.2 1 i 10 6 = 0) := by
    unfold F_X0_compared F_X0_compared_46 F_X0_compared_61 F_X0_compared_76 F_X0_compared_91 cmpV
    by_cases q1 : k = 10
    · rw [if_pos q1, if_pos q1]
      by_cases q : a = b
      · rw [if_pos q]; exact fin 1 _ (by rw [decide_eq_true q]; rfl)
      · rw [if_neg q]; exact fin 0 _ (by rw [decide_eq_false q]; rfl)
    rw [if_neg q1, if_neg q1]
    by_cases q2 : k = 11
    · rw [if_pos q2, if_pos q2]
      by_cases q : a = b
      · rw [if_pos q]; exact fin 0 _ (by rw [decide_eq_false (not_not_intro q)]; rfl)
      · rw [if_neg q]; exact fin 1 _ (by rw [decide_eq_true (p := a ≠ b) q]; rfl)
    rw [if_neg q2, if_neg q2]
    by_cases q3 : k = 12
    · rw [if_pos q3, if_pos q3]
      by_cases q : b ≤ a
      · rw [if_pos q]; exact fin 0 _ (by rw [decide_eq_false (show ¬ a < b by clear fin hb; grind)]; rfl)
      · rw [if_neg q]; exact fin 1 _ (by rw [decide_eq_true (show a < b by clear fin hb; grind)]; rfl)
    rw [if_neg q3, if_neg q3]
    by_cases q4 : k = 13
    · rw [if_pos q4, if_pos q4]
      by_cases q : b < a
      · rw [if_pos q]; exact fin 0 _ (by rw [decide_eq_false (show ¬ a ≤ b by clear fin hb; grind)]; rfl)
      · rw [if_neg q]; exact fin 1 _ (by rw [decide_eq_true (show a ≤ b by clear fin hb; grind)]; rfl)
    rw [if_neg q4, if_neg q4]
    exact fin 0 false rfl
  exact Ok_B key (fun w τ hw => Ok_r ⟨hw.1, hw.2⟩)
/-- one piece of code upon a stack, as the class works it -/
def clS (v : Nat → Int32) (q : Int32 × Int32) (st : List Int32 × Bool) : List Int32 × Bool :=
  if q.1 = 27 ∧ st.1 ≠ [] then (match st.1 with
    | t :: s => ((1 - t) :: s, st.2)
    | [] => st)
  else if q.1 = 3 ∧ st.1.length < 24 then (q.2 :: st.1, st.2)
  else if 28 ≤ q.1 ∧ q.1 - 28 < 9 ∧ st.1.length < 24 then (v (q.1 - 28).toNatClampNeg :: st.1, st.2)
  else match st.1 with
    | y :: x :: s => ((jn q.1 x y st.2).1 :: s, (jn q.1 x y st.2).2)
    | _ => st
def clR (v : Nat → Int32) (L : List (Int32 × Int32)) (st : List Int32 × Bool) : List Int32 × Bool := L.foldl (fun st q => clS v q st) st
def clV (st : List Int32 × Bool) : Int32 := if st.2 then 0 else match st.1 with
  | x :: _ => x
  | [] => 0
theorem work_g {C N T v : Nat → Int32} {i p e : Nat} (hp : p < 11) (he : e ≤ 400) (hT : T p = nI e) : ∀ (m : Nat) (R : List (Int32 × Int32)) (k : Nat) (s : List Int32) (br : Bool) (σ : Mm), R.length < m → mA σ 1 i 11 = C → mA σ 1 i 12 = N → mA σ 1 i 14 = T → mA σ 0 0 22 = v → k + R.length = e → (∀ j q, R[j]? = some q → C (k + j) = q.1 ∧ (q.1 = 3 → N (k + j) = q.2)) → SM (mA σ 1 i 15) s → s.length ≤ 24 → (mA σ 1 i 10 6 = if br then 1 else 0) →
    Ok (F_X0_work_g_27 m i (nI p) (nI s.length) (nI k) σ) (fun r => r.1 = clV (clR v R (s, br))) := by
  intro m
  induction m with
  | zero => intro R k s br σ h; omega
  | succ m ih =>
    intro R k s br σ hm hC hN hT' hv hk hseg hs hs24 hb
    change Ok (B_X0_work_g_27 (F_X0_work_g_27 m) _ _ _ _ _) _
    unfold B_X0_work_g_27
    have hcp : (nI p).toNatClampNeg = p := nI_clamp (by omega)
    have ip : inb (nI p) 11 = true := by clear ih hseg hs hC hN hT' hv hb hT; grind [gI, gB, gC]
    rw [hcp, hT', hT]
    refine Ok_t ip ?_
    cases R with
    | nil =>
      have : k = e := by simpa using hk
      subst this
      refine Ok_t (nI_le (Nat.le_refl _) (by omega)) ?_
      unfold F_X0_work_g_202 F_X0_work_g_214
      rw [hb]
      show Ok _ (fun (r : Int32 × Mm) => r.1 = clV (s, br))
      unfold clV
      cases br with
      | true => exact Ok_f (by decide) (Ok_r rfl)
      | false =>
        refine Ok_t (by decide) ?_
        cases s with
        | nil => exact Ok_f (by decide) (Ok_r rfl)
        | cons x s =>
          have hl : (x :: s).length = s.length + 1 := rfl
          have e1 : nI (s.length + 1) - 1 = nI s.length := nI_pred s.length
          rw [hl, e1]
          have i24 : inb (nI s.length) 24 = true := by clear ih hseg hs hC hN hT' hv hb hT e1; grind [gI, gB, gC]
          refine Ok_t (nI_le (a := 1) (by omega) (by omega)) (Ok_t i24 (Ok_r ?_))
          rw [nI_clamp (by omega)]; exact hs.1
    | cons q R =>
      have hl : (q :: R).length = R.length + 1 := rfl
      have hke : k < e := by omega
      have hck : (nI k).toNatClampNeg = k := nI_clamp (by omega)
      have i400 : inb (nI k) 400 = true := by clear ih hseg hs hC hN hT' hv hb hT ip; grind [gI, gB, gC]
      obtain ⟨g1, g2⟩ := hseg 0 q rfl
      simp only [Nat.add_zero] at g1 g2
      have hseg2 : ∀ j p, R[j]? = some p → C (k + 1 + j) = p.1 ∧ (p.1 = 3 → N (k + 1 + j) = p.2) := fun j p hj => by
        have := hseg (j + 1) p hj
        rw [show k + (j + 1) = k + 1 + j by omega] at this; exact this
      have cl : clR v (q :: R) (s, br) = clR v R (clS v q (s, br)) := rfl
      have go : ∀ (s' : List Int32) (br' : Bool) (τ : Mm), mA τ 1 i 11 = C → mA τ 1 i 12 = N → mA τ 1 i 14 = T → mA τ 0 0 22 = v → SM (mA τ 1 i 15) s' → s'.length ≤ 24 → (mA τ 1 i 10 6 = if br' then 1 else 0) → clS v q (s, br) = (s', br') → Ok (F_X0_work_g_27 m i (nI p) (nI s'.length) (nI (k + 1)) τ) (fun r => r.1 = clV (clR v (q :: R) (s, br))) := by
        intro s' br' τ a1 a2 a3 a4 a5 a6 a7 a8
        rw [cl, a8]
        exact ih R (k + 1) s' br' τ (by omega) a1 a2 a3 a4 (by omega) hseg2 a5 a6 a7
      refine Ok_f (nI_ge hke (by omega)) (Ok_f (show ¬ (400 : Int32) ≤ nI k from nI_ge (b := 400) (by omega) (by decide)) (Ok_t i400 ?_))
      rw [hck, hC, g1]
      -- what is joined
      have joinC : ¬ (q.1 = 27 ∧ s ≠ []) → ¬ (q.1 = 3 ∧ s.length < 24) → ¬ (28 ≤ q.1 ∧ q.1 - 28 < 9 ∧ s.length < 24) → Ok (F_X0_work_g_160 (F_X0_work_g_27 m) i (nI p) (nI s.length) (nI k) q.1 σ) (fun r => r.1 = clV (clR v (q :: R) (s, br))) := by
        intro n1 n2 n3
        have hcs : clS v q (s, br) = match s with
            | y :: x :: s => ((jn q.1 x y br).1 :: s, (jn q.1 x y br).2)
            | _ => (s, br) := by
          unfold clS
          rw [if_neg n1, if_neg n2, if_neg n3]
          cases s with
          | nil => rfl
          | cons y s => cases s <;> rfl
        unfold F_X0_work_g_160 F_X0_work_g_196
        rcases s with _ | ⟨y, _ | ⟨x, s⟩⟩
        · refine Ok_t (by decide) ?_
          rw [nI_1]
          exact go [] br σ hC hN hT' hv hs hs24 hb hcs
        · refine Ok_t (show nI 1 ≤ 1 from by decide) ?_
          rw [nI_1]
          exact go [y] br σ hC hN hT' hv hs hs24 hb hcs
        · have hs1 : mA σ 1 i 15 (s.length + 1) = y := hs.1
          have hs2 : mA σ 1 i 15 s.length = x := hs.2.1
          have hlen : (y :: x :: s).length = s.length + 2 := rfl
          have e3 : nI (s.length + 2) + -1 = nI (s.length + 1) := pk_m1 (s.length + 1)
          have e4 : nI (s.length + 1) - 1 = nI s.length := nI_pred s.length
          have k1 : (nI (s.length + 1)).toNatClampNeg = s.length + 1 := nI_clamp (by omega)
          have k2 : (nI s.length).toNatClampNeg = s.length := nI_clamp (by omega)
          rw [hlen] at hs24 ⊢
          have i1 : inb (nI (s.length + 1)) 24 = true := by clear ih hseg hs hC hN hT' hv hb hT hcs go n1 n2 n3 g1 g2 hseg2 cl ip i400 e3 e4; grind [gI, gB, gC]
          have i2 : inb (nI s.length) 24 = true := by clear ih hseg hs hC hN hT' hv hb hT hcs go n1 n2 n3 g1 g2 hseg2 cl ip i400 e3 e4 i1; grind [gI, gB, gC]
          refine Ok_f (show ¬ nI (s.length + 2) ≤ 1 from nI_ge (a := 1) (by omega) (by omega)) ?_
          rw [e3, e4, k1, k2, hs1, hs2]
          refine Ok_t i2 (Ok_t i1 (Ok_B ((s_joined hb).frI fr_X0_joined) (fun w τ hw => ?_)))
          obtain ⟨⟨hw1, hw2⟩, fr⟩ := hw
          simp only at hw1 hw2 fr
          unfold F_X0_work_g_195 F_X0_work_g_196
          refine Ok_t i2 ?_
          rw [k2, nI_1, hw1]
          have f15 : mA τ 1 i 15 = mA σ 1 i 15 := fr.row i rfl
          refine go ((jn q.1 x y br).1 :: s) (jn q.1 x y br).2 _ ?_ ?_ ?_ ?_ ?_ (by simp; omega) ?_ hcs
          · rw [mA_R]; simp; rw [fr.row (t := 1) (k := 11) i rfl]; exact hC
          · rw [mA_R]; simp; rw [fr.row (t := 1) (k := 12) i rfl]; exact hN
          · rw [mA_R]; simp; rw [fr.row (t := 1) (k := 14) i rfl]; exact hT'
          · rw [mA_R]; simp; rw [fr.row (t := 0) (k := 22) 0 rfl]; exact hv
          · rw [mA_R]; simp; rw [f15]; exact SM_push hs.2.2
          · simp only [mA_A, mL_A, mP_A, mA_L, mL_L, mP_L, upd_at]; simp; exact hw2
      have p118 : ¬ (q.1 = 27 ∧ s ≠ []) → ¬ (q.1 = 3 ∧ s.length < 24) → Ok (F_X0_work_g_118 (F_X0_work_g_27 m) i (nI p) (nI s.length) (nI k) q.1 σ) (fun r => r.1 = clV (clR v (q :: R) (s, br))) := by
        intro n1 n2
        unfold F_X0_work_g_118 F_X0_work_g_154 F_X0_work_g_196
        by_cases q28 : q.1 < 28
        · exact Ok_t q28 (joinC n1 n2 (fun z => by have := z.1; clear ih go joinC hseg2 hseg; grind))
        refine Ok_f q28 ?_
        by_cases q9 : 9 ≤ q.1 - 28
        · exact Ok_t q9 (joinC n1 n2 (fun z => by have := z.2.1; clear ih go joinC hseg2 hseg; grind))
        refine Ok_f q9 ?_
        by_cases s24 : 24 ≤ s.length
        · exact Ok_t (nI_le (a := 24) s24 (by omega)) (joinC n1 n2 (fun z => by omega))
        have hin : inb (q.1 - 28) 9 = true := by
          generalize q.1 = z at *
          clear ih go joinC hseg2 hseg hs hC hN hT' hv hb hT g1 g2 n1 n2 cl ip i400
          grind [gI, gB, gC]
        have k2 : (nI s.length).toNatClampNeg = s.length := nI_clamp (by omega)
        have i2 : inb (nI s.length) 24 = true := by clear ih go joinC hseg2 hseg hs hC hN hT' hv hb hT g1 g2 n1 n2 cl ip i400 hin; grind [gI, gB, gC]
        refine Ok_f (show ¬ (24 : Int32) ≤ nI s.length from nI_ge (b := 24) (by omega) (by decide)) (Ok_t hin (Ok_t i2 ?_))
        rw [k2, nI_1, nI_1, hv]
        refine go (v (q.1 - 28).toNatClampNeg :: s) br _ ?_ ?_ ?_ ?_ ?_ (by simp; omega) ?_ ?_
        · rw [mA_R]; simp; exact hC
        · rw [mA_R]; simp; exact hN
        · rw [mA_R]; simp; exact hT'
        · rw [mA_R]; simp; exact hv
        · rw [mA_R]; simp; exact SM_push hs
        · simp only [mA_A, mL_A, mP_A, mA_L, mL_L, mP_L, upd_at]; simp; exact hb
        · unfold clS
          rw [if_neg n1, if_neg n2, if_pos ⟨by generalize q.1 = z at *; clear ih go joinC hseg2 hseg; grind, by generalize q.1 = z at *; clear ih go joinC hseg2 hseg; grind, by show s.length < 24; omega⟩]
      have p87 : ¬ (q.1 = 27 ∧ s ≠ []) → Ok (F_X0_work_g_87 (F_X0_work_g_27 m) i (nI p) (nI s.length) (nI k) q.1 σ) (fun r => r.1 = clV (clR v (q :: R) (s, br))) := by
        intro n1
        unfold F_X0_work_g_87 F_X0_work_g_112 F_X0_work_g_196
        by_cases q3 : q.1 = 3
        · refine Ok_t q3 ?_
          by_cases s24 : 24 ≤ s.length
          · exact Ok_t (nI_le (a := 24) s24 (by omega)) (p118 n1 (fun z => by omega))
          have k2 : (nI s.length).toNatClampNeg = s.length := nI_clamp (by omega)
          have i2 : inb (nI s.length) 24 = true := by clear ih go joinC hseg2 hseg hs hC hN hT' hv hb hT g1 g2 n1 cl ip i400 p118; grind [gI, gB, gC]
          refine Ok_f (show ¬ (24 : Int32) ≤ nI s.length from nI_ge (b := 24) (by omega) (by decide)) (Ok_t i400 (Ok_t i2 ?_))
          rw [k2, hck, nI_1, nI_1, hN, g2 q3]
          refine go (q.2 :: s) br _ ?_ ?_ ?_ ?_ ?_ (by simp; omega) ?_ ?_
          · rw [mA_R]; simp; exact hC
          · rw [mA_R]; simp; exact hN
          · rw [mA_R]; simp; exact hT'
          · rw [mA_R]; simp; exact hv
          · rw [mA_R]; simp; exact SM_push hs
          · simp only [mA_A, mL_A, mP_A, mA_L, mL_L, mP_L, upd_at]; simp; exact hb
          · unfold clS
            rw [if_neg n1, if_pos ⟨q3, by show s.length < 24; omega⟩]
        · exact Ok_f q3 (p118 n1 (fun z => q3 z.1))
      by_cases q27 : q.1 = 27
      · refine Ok_t q27 ?_
        cases s with
        | nil => exact Ok_t (by decide) (p87 (fun z => z.2 rfl))
        | cons t s =>
          have hlen : (t :: s).length = s.length + 1 := rfl
          rw [hlen] at hs24 ⊢
          have e1 : nI (s.length + 1) - 1 = nI s.length := nI_pred s.length
          have k2 : (nI s.length).toNatClampNeg = s.length := nI_clamp (by omega)
          have i2 : inb (nI s.length) 24 = true := by clear ih go joinC hseg2 hseg hs hC hN hT' hv hb hT g1 g2 cl ip i400 p118 p87 e1; grind [gI, gB, gC]
          refine Ok_f (show ¬ nI (s.length + 1) ≤ 0 from nI_ge (a := 0) (by omega) (by omega)) ?_
          unfold F_X0_work_g_196
          have hs1 : mA σ 1 i 15 s.length = t := hs.1
          rw [e1, k2, hs1, nI_1]
          refine Ok_t i2 (Ok_t i2 ?_)
          refine go ((1 - t) :: s) br _ ?_ ?_ ?_ ?_ ?_ (by simp; omega) ?_ ?_
          · rw [mA_R]; simp; exact hC
          · rw [mA_R]; simp; exact hN
          · rw [mA_R]; simp; exact hT'
          · rw [mA_R]; simp; exact hv
          · rw [mA_R]; simp; exact SM_push hs.2
          · simp only [mA_A, mL_A, mP_A, mA_L, mL_L, mP_L, upd_at]; simp; exact hb
          · unfold clS
            rw [if_pos ⟨q27, List.cons_ne_nil _ _⟩]
      · exact Ok_f q27 (p87 (fun z => q27 z.1))
theorem s_work_g {σ : Mm} {i p : Nat} {L : List (Int32 × Int32)} (hp : p < 11) (hL : segC σ i p L) : Ok (F_X0_work_g i (nI p) σ) (fun r => r.1 = clV (clR (mA σ 0 0 22) L ([], false))) := by
  obtain ⟨c, h1, h2, h4, hseg⟩ := hL
  have ip : inb (nI p) 11 = true := by clear h1 h2 hseg; grind [gI, gB, gC]
  have hcp : (nI p).toNatClampNeg = p := nI_clamp (by omega)
  unfold F_X0_work_g F_X0_work_g_7
  refine Ok_f (nI_pos (by omega)) (Ok_t (show nI p < 11 from nI_lt hp (by decide)) (Ok_t ip ?_))
  rw [hcp]
  have e : mA (setA σ 1 i 10 (upd (mA σ 1 i 10) 6 0)) 1 i 13 p = nI c := by simp only [mA_A, mL_A, mP_A, mA_L, mL_L, mP_L, upd_at]; simp; exact h1
  rw [e]
  exact work_g (s := []) (br := false) hp h4 h2 FU L c (setA σ 1 i 10 (upd (mA σ 1 i 10) 6 0)) (by show _ < 1000000; omega) (by rw [mA_R]; simp) (by rw [mA_R]; simp) (by rw [mA_R]; simp) (by rw [mA_R]; simp) rfl hseg trivial (by simp) (by simp only [mA_A, mL_A, mP_A, mA_L, mL_L, mP_L, upd_at]; simp)
theorem work_s {C N T v : Nat → Int32} {i p e : Nat} (hp : p < 11) (he : e ≤ 400) (hT : T p = nI e) : ∀ (m : Nat) (R : List (Int32 × Int32)) (k : Nat) (s : List Int32) (br : Bool) (σ : Mm), R.length < m → mA σ 1 i 11 = C → mA σ 1 i 12 = N → mA σ 1 i 14 = T → mA σ 0 0 28 = v → k + R.length = e → (∀ j q, R[j]? = some q → C (k + j) = q.1 ∧ (q.1 = 3 → N (k + j) = q.2)) → SM (mA σ 1 i 15) s → s.length ≤ 24 → (mA σ 1 i 10 6 = if br then 1 else 0) →
    Ok (F_X0_work_s_27 m i (nI p) (nI s.length) (nI k) σ) (fun r => r.1 = clV (clR v R (s, br))) := by
  intro m
  induction m with
  | zero => intro R k s br σ h; omega
  | succ m ih =>
    intro R k s br σ hm hC hN hT' hv hk hseg hs hs24 hb
    change Ok (B_X0_work_s_27 (F_X0_work_s_27 m) _ _ _ _ _) _
    unfold B_X0_work_s_27
    have hcp : (nI p).toNatClampNeg = p := nI_clamp (by omega)
    have ip : inb (nI p) 11 = true := by clear ih hseg hs hC hN hT' hv hb hT; grind [gI, gB, gC]
    rw [hcp, hT', hT]
    refine Ok_t ip ?_
    cases R with
    | nil =>
      have : k = e := by simpa using hk
      subst this
      refine Ok_t (nI_le (Nat.le_refl _) (by omega)) ?_
      unfold F_X0_work_s_202 F_X0_work_s_214
      rw [hb]
      show Ok _ (fun (r : Int32 × Mm) => r.1 = clV (s, br))
      unfold clV
      cases br with
      | true => exact Ok_f (by decide) (Ok_r rfl)
      | false =>
        refine Ok_t (by decide) ?_
        cases s with
        | nil => exact Ok_f (by decide) (Ok_r rfl)
        | cons x s =>
          have hl : (x :: s).length = s.length + 1 := rfl
          have e1 : nI (s.length + 1) - 1 = nI s.length := nI_pred s.length
          rw [hl, e1]
          have i24 : inb (nI s.length) 24 = true := by clear ih hseg hs hC hN hT' hv hb hT e1; grind [gI, gB, gC]
          refine Ok_t (nI_le (a := 1) (by omega) (by omega)) (Ok_t i24 (Ok_r ?_))
          rw [nI_clamp (by omega)]; exact hs.1
    | cons q R =>
      have hl : (q :: R).length = R.length + 1 := rfl
      have hke : k < e := by omega
      have hck : (nI k).toNatClampNeg = k := nI_clamp (by omega)
      have i400 : inb (nI k) 400 = true := by clear ih hseg hs hC hN hT' hv hb hT ip; grind [gI, gB, gC]
      obtain ⟨g1, g2⟩ := hseg 0 q rfl
      simp only [Nat.add_zero] at g1 g2
      have hseg2 : ∀ j p, R[j]? = some p → C (k + 1 + j) = p.1 ∧ (p.1 = 3 → N (k + 1 + j) = p.2) := fun j p hj => by
        have := hseg (j + 1) p hj
        rw [show k + (j + 1) = k + 1 + j by omega] at this; exact this
      have cl : clR v (q :: R) (s, br) = clR v R (clS v q (s, br)) := rfl
      have go : ∀ (s' : List Int32) (br' : Bool) (τ : Mm), mA τ 1 i 11 = C → mA τ 1 i 12 = N → mA τ 1 i 14 = T → mA τ 0 0 28 = v → SM (mA τ 1 i 15) s' → s'.length ≤ 24 → (mA τ 1 i 10 6 = if br' then 1 else 0) → clS v q (s, br) = (s', br') → Ok (F_X0_work_s_27 m i (nI p) (nI s'.length) (nI (k + 1)) τ) (fun r => r.1 = clV (clR v (q :: R) (s, br))) := by
        intro s' br' τ a1 a2 a3 a4 a5 a6 a7 a8
        rw [cl, a8]
        exact ih R (k + 1) s' br' τ (by omega) a1 a2 a3 a4 (by omega) hseg2 a5 a6 a7
      refine Ok_f (nI_ge hke (by omega)) (Ok_f (show ¬ (400 : Int32) ≤ nI k from nI_ge (b := 400) (by omega) (by decide)) (Ok_t i400 ?_))
      rw [hck, hC, g1]
      -- what is joined
      have joinC : ¬ (q.1 = 27 ∧ s ≠ []) → ¬ (q.1 = 3 ∧ s.length < 24) → ¬ (28 ≤ q.1 ∧ q.1 - 28 < 9 ∧ s.length < 24) → Ok (F_X0_work_s_160 (F_X0_work_s_27 m) i (nI p) (nI s.length) (nI k) q.1 σ) (fun r => r.1 = clV (clR v (q :: R) (s, br))) := by
        intro n1 n2 n3
        have hcs : clS v q (s, br) = match s with
            | y :: x :: s => ((jn q.1 x y br).1 :: s, (jn q.1 x y br).2)
            | _ => (s, br) := by
          unfold clS
          rw [if_neg n1, if_neg n2, if_neg n3]
          cases s with
          | nil => rfl
          | cons y s => cases s <;> rfl
        unfold F_X0_work_s_160 F_X0_work_s_196
        rcases s with _ | ⟨y, _ | ⟨x, s⟩⟩
        · refine Ok_t (by decide) ?_
          rw [nI_1]
          exact go [] br σ hC hN hT' hv hs hs24 hb hcs
        · refine Ok_t (show nI 1 ≤ 1 from by decide) ?_
          rw [nI_1]
          exact go [y] br σ hC hN hT' hv hs hs24 hb hcs
        · have hs1 : mA σ 1 i 15 (s.length + 1) = y := hs.1
          have hs2 : mA σ 1 i 15 s.length = x := hs.2.1
          have hlen : (y :: x :: s).length = s.length + 2 := rfl
          have e3 : nI (s.length + 2) + -1 = nI (s.length + 1) := pk_m1 (s.length + 1)
          have e4 : nI (s.length + 1) - 1 = nI s.length := nI_pred s.length
          have k1 : (nI (s.length + 1)).toNatClampNeg = s.length + 1 := nI_clamp (by omega)
          have k2 : (nI s.length).toNatClampNeg = s.length := nI_clamp (by omega)
          rw [hlen] at hs24 ⊢
          have i1 : inb (nI (s.length + 1)) 24 = true := by clear ih hseg hs hC hN hT' hv hb hT hcs go n1 n2 n3 g1 g2 hseg2 cl ip i400 e3 e4; grind [gI, gB, gC]
          have i2 : inb (nI s.length) 24 = true := by clear ih hseg hs hC hN hT' hv hb hT hcs go n1 n2 n3 g1 g2 hseg2 cl ip i400 e3 e4 i1; grind [gI, gB, gC]
          refine Ok_f (show ¬ nI (s.length + 2) ≤ 1 from nI_ge (a := 1) (by omega) (by omega)) ?_
          rw [e3, e4, k1, k2, hs1, hs2]
          refine Ok_t i2 (Ok_t i1 (Ok_B ((s_joined hb).frI fr_X0_joined) (fun w τ hw => ?_)))
          obtain ⟨⟨hw1, hw2⟩, fr⟩ := hw
          simp only at hw1 hw2 fr
          unfold F_X0_work_s_195 F_X0_work_s_196
          refine Ok_t i2 ?_
          rw [k2, nI_1, hw1]
          have f15 : mA τ 1 i 15 = mA σ 1 i 15 := fr.row i rfl
          refine go ((jn q.1 x y br).1 :: s) (jn q.1 x y br).2 _ ?_ ?_ ?_ ?_ ?_ (by simp; omega) ?_ hcs
          · rw [mA_R]; simp; rw [fr.row (t := 1) (k := 11) i rfl]; exact hC
          · rw [mA_R]; simp; rw [fr.row (t := 1) (k := 12) i rfl]; exact hN
          · rw [mA_R]; simp; rw [fr.row (t := 1) (k := 14) i rfl]; exact hT'
          · rw [mA_R]; simp; rw [fr.row (t := 0) (k := 28) 0 rfl]; exact hv
          · rw [mA_R]; simp; rw [f15]; exact SM_push hs.2.2
          · simp only [mA_A, mL_A, mP_A, mA_L, mL_L, mP_L, upd_at]; simp; exact hw2
      have p118 : ¬ (q.1 = 27 ∧ s ≠ []) → ¬ (q.1 = 3 ∧ s.length < 24) → Ok (F_X0_work_s_118 (F_X0_work_s_27 m) i (nI p) (nI s.length) (nI k) q.1 σ) (fun r => r.1 = clV (clR v (q :: R) (s, br))) := by
        intro n1 n2
        unfold F_X0_work_s_118 F_X0_work_s_154 F_X0_work_s_196
        by_cases q28 : q.1 < 28
        · exact Ok_t q28 (joinC n1 n2 (fun z => by have := z.1; clear ih go joinC hseg2 hseg; grind))
        refine Ok_f q28 ?_
        by_cases q9 : 9 ≤ q.1 - 28
        · exact Ok_t q9 (joinC n1 n2 (fun z => by have := z.2.1; clear ih go joinC hseg2 hseg; grind))
        refine Ok_f q9 ?_
        by_cases s24 : 24 ≤ s.length
        · exact Ok_t (nI_le (a := 24) s24 (by omega)) (joinC n1 n2 (fun z => by omega))
        have hin : inb (q.1 - 28) 9 = true := by
          generalize q.1 = z at *
          clear ih go joinC hseg2 hseg hs hC hN hT' hv hb hT g1 g2 n1 n2 cl ip i400
          grind [gI, gB, gC]
        have k2 : (nI s.length).toNatClampNeg = s.length := nI_clamp (by omega)
        have i2 : inb (nI s.length) 24 = true := by clear ih go joinC hseg2 hseg hs hC hN hT' hv hb hT g1 g2 n1 n2 cl ip i400 hin; grind [gI, gB, gC]
        refine Ok_f (show ¬ (24 : Int32) ≤ nI s.length from nI_ge (b := 24) (by omega) (by decide)) (Ok_t hin (Ok_t i2 ?_))
        rw [k2, nI_1, nI_1, hv]
        refine go (v (q.1 - 28).toNatClampNeg :: s) br _ ?_ ?_ ?_ ?_ ?_ (by simp; omega) ?_ ?_
        · rw [mA_R]; simp; exact hC
        · rw [mA_R]; simp; exact hN
        · rw [mA_R]; simp; exact hT'
        · rw [mA_R]; simp; exact hv
        · rw [mA_R]; simp; exact SM_push hs
        · simp only [mA_A, mL_A, mP_A, mA_L, mL_L, mP_L, upd_at]; simp; exact hb
        · unfold clS
          rw [if_neg n1, if_neg n2, if_pos ⟨by generalize q.1 = z at *; clear ih go joinC hseg2 hseg; grind, by generalize q.1 = z at *; clear ih go joinC hseg2 hseg; grind, by show s.length < 24; omega⟩]
      have p87 : ¬ (q.1 = 27 ∧ s ≠ []) → Ok (F_X0_work_s_87 (F_X0_work_s_27 m) i (nI p) (nI s.length) (nI k) q.1 σ) (fun r => r.1 = clV (clR v (q :: R) (s, br))) := by
        intro n1
        unfold F_X0_work_s_87 F_X0_work_s_112 F_X0_work_s_196
        by_cases q3 : q.1 = 3
        · refine Ok_t q3 ?_
          by_cases s24 : 24 ≤ s.length
          · exact Ok_t (nI_le (a := 24) s24 (by omega)) (p118 n1 (fun z => by omega))
          have k2 : (nI s.length).toNatClampNeg = s.length := nI_clamp (by omega)
          have i2 : inb (nI s.length) 24 = true := by clear ih go joinC hseg2 hseg hs hC hN hT' hv hb hT g1 g2 n1 cl ip i400 p118; grind [gI, gB, gC]
          refine Ok_f (show ¬ (24 : Int32) ≤ nI s.length from nI_ge (b := 24) (by omega) (by decide)) (Ok_t i400 (Ok_t i2 ?_))
          rw [k2, hck, nI_1, nI_1, hN, g2 q3]
          refine go (q.2 :: s) br _ ?_ ?_ ?_ ?_ ?_ (by simp; omega) ?_ ?_
          · rw [mA_R]; simp; exact hC
          · rw [mA_R]; simp; exact hN
          · rw [mA_R]; simp; exact hT'
          · rw [mA_R]; simp; exact hv
          · rw [mA_R]; simp; exact SM_push hs
          · simp only [mA_A, mL_A, mP_A, mA_L, mL_L, mP_L, upd_at]; simp; exact hb
          · unfold clS
            rw [if_neg n1, if_pos ⟨q3, by show s.length < 24; omega⟩]
        · exact Ok_f q3 (p118 n1 (fun z => q3 z.1))
      by_cases q27 : q.1 = 27
      · refine Ok_t q27 ?_
        cases s with
        | nil => exact Ok_t (by decide) (p87 (fun z => z.2 rfl))
        | cons t s =>
          have hlen : (t :: s).length = s.length + 1 := rfl
          rw [hlen] at hs24 ⊢
          have e1 : nI (s.length + 1) - 1 = nI s.length := nI_pred s.length
          have k2 : (nI s.length).toNatClampNeg = s.length := nI_clamp (by omega)
          have i2 : inb (nI s.length) 24 = true := by clear ih go joinC hseg2 hseg hs hC hN hT' hv hb hT g1 g2 cl ip i400 p118 p87 e1; grind [gI, gB, gC]
          refine Ok_f (show ¬ nI (s.length + 1) ≤ 0 from nI_ge (a := 0) (by omega) (by omega)) ?_
          unfold F_X0_work_s_196
          have hs1 : mA σ 1 i 15 s.length = t := hs.1
          rw [e1, k2, hs1, nI_1]
          refine Ok_t i2 (Ok_t i2 ?_)
          refine go ((1 - t) :: s) br _ ?_ ?_ ?_ ?_ ?_ (by simp; omega) ?_ ?_
          · rw [mA_R]; simp; exact hC
          · rw [mA_R]; simp; exact hN
          · rw [mA_R]; simp; exact hT'
          · rw [mA_R]; simp; exact hv
          · rw [mA_R]; simp; exact SM_push hs.2
          · simp only [mA_A, mL_A, mP_A, mA_L, mL_L, mP_L, upd_at]; simp; exact hb
          · unfold clS
            rw [if_pos ⟨q27, List.cons_ne_nil _ _⟩]
      · exact Ok_f q27 (p87 (fun z => q27 z.1))
theorem s_work_s {σ : Mm} {i p : Nat} {L : List (Int32 × Int32)} (hp : p < 11) (hL : segC σ i p L) : Ok (F_X0_work_s i (nI p) σ) (fun r => r.1 = clV (clR (mA σ 0 0 28) L ([], false))) := by
  obtain ⟨c, h1, h2, h4, hseg⟩ := hL
  have ip : inb (nI p) 11 = true := by clear h1 h2 hseg; grind [gI, gB, gC]
  have hcp : (nI p).toNatClampNeg = p := nI_clamp (by omega)
  unfold F_X0_work_s F_X0_work_s_7
  refine Ok_f (nI_pos (by omega)) (Ok_t (show nI p < 11 from nI_lt hp (by decide)) (Ok_t ip ?_))
  rw [hcp]
  have e : mA (setA σ 1 i 10 (upd (mA σ 1 i 10) 6 0)) 1 i 13 p = nI c := by simp only [mA_A, mL_A, mP_A, mA_L, mL_L, mP_L, upd_at]; simp; exact h1
  rw [e]
  exact work_s (s := []) (br := false) hp h4 h2 FU L c (setA σ 1 i 10 (upd (mA σ 1 i 10) 6 0)) (by show _ < 1000000; omega) (by rw [mA_R]; simp) (by rw [mA_R]; simp) (by rw [mA_R]; simp) (by rw [mA_R]; simp) rfl hseg trivial (by simp) (by simp only [mA_A, mL_A, mP_A, mA_L, mL_L, mP_L, upd_at]; simp)
