/-! degrees, vectors, counting rings, years -/
theorem abs_eq (x : Int32) : f_J9_abs_0f7a4 x = f_X12_plain x := by
  unfold f_J9_abs_0f7a4 f_X12_plain
  split <;> rfl
theorem gM360 (x : Int32) (h : 0 ≤ x) : x - x / 360 * 360 = nI (x.toNatClampNeg % 360) := by
  have hx := (gC x h).1
  rw [← pk_rem (gC x h).2 (d := 360) (by decide) (by decide), ← hx]
  rfl
def bearQ (a b : Int32) : Int32 := (45 * (if b < a then b else a)) / (if a < b then b else a)
theorem bearQ_def (a b : Int32) : (45 * (if b < a then b else a)) / (if a < b then b else a) = bearQ a b := rfl
theorem bearQ_in {a b : Int32} (ha : 0 ≤ a) (ha' : a ≤ 20000) (hb : 0 ≤ b) (hb' : b ≤ 20000) (h : ¬ (a = 0 ∧ b = 0)) : 0 ≤ bearQ a b ∧ bearQ a b ≤ 45 := by
  unfold bearQ
  have key : ∀ x y : Int32, 0 ≤ x → x ≤ y → 0 < y → y ≤ 20000 → 0 ≤ (45 * x) / y ∧ (45 * x) / y ≤ 45 := by
    intro x y hx hxy hy hy2
    have h1 : 0 ≤ 45 * x := by grind
    rw [gD (45 * x) y h1 hy]
    have h2 : (45 * x).toNatClampNeg / y.toNatClampNeg ≤ 45 := by
      apply Nat.div_le_of_le_mul
      have e1 : (45 * x).toNatClampNeg = 45 * x.toNatClampNeg := by grind [gI, gC]
      have e2 : x.toNatClampNeg ≤ y.toNatClampNeg := by grind [gI, gC]
      omega
    exact ⟨nI_pos' (by omega), nI_le h2 (by decide)⟩
  by_cases h1 : b < a
  · rw [if_pos h1, if_neg (by grind)]; exact key b a hb (by grind) (by grind) ha'
  · by_cases h2 : a < b
    · rw [if_neg h1, if_pos h2]; exact key a b ha (by grind) (by grind) hb'
    · rw [if_neg h1, if_neg h2]; exact key a a ha (by grind) (by grind) ha'
def bearF (e n a b q : Int32) : Int32 :=
  if e < 0 ∨ n ≤ 0 then (if e ≤ 0 then (if 0 ≤ n then (if a < b then (if q = 0 then 0 else 360 - q) else 270 + q) else (if b < a then 270 - q else 180 + q)) else (if a < b then 180 - q else 90 + q)) else (if b < a then 90 - q else q)
def bear (e n : Int32) : Int32 := bearF e n (f_X12_plain e) (f_X12_plain n) (bearQ (f_X12_plain e) (f_X12_plain n))
abbrev rB (x : Int32) : Prop := -9999 ≤ x ∧ x ≤ 9999
theorem plain_in {x : Int32} (h : rB x) : 0 ≤ f_X12_plain x ∧ f_X12_plain x ≤ 9999 ∧ (f_X12_plain x = 0 ↔ x = 0) := by
  unfold f_X12_plain; grind
theorem bear_in {e n : Int32} (he : rB e) (hn : rB n) (h : ¬ (e = 0 ∧ n = 0)) : 0 ≤ bear e n ∧ bear e n < 360 := by
  obtain ⟨a1, a2, a3⟩ := plain_in he
  obtain ⟨b1, b2, b3⟩ := plain_in hn
  obtain ⟨q1, q2⟩ := bearQ_in a1 (by grind) b1 (by grind) (by grind)
  unfold bear bearF
  generalize bearQ (f_X12_plain e) (f_X12_plain n) = q at *
  grind
theorem bearing_37 {e n a b q : Int32} {σ : Mm} (q1 : 0 ≤ q) (q2 : q ≤ 45) : F_X1_bearing_37 e n a b q σ = some (bearF e n a b q, σ) := by
  unfold F_X1_bearing_37 F_X1_bearing_61 bearF
  have hm : (360 - q) - (360 - q) / 360 * 360 = if q = 0 then 0 else 360 - q := by
    rw [gM360 (360 - q) (by grind)]
    by_cases hq : q = 0
    · subst hq; rfl
    · rw [if_neg hq, Nat.mod_eq_of_lt (by grind [gI, gC]), ← (gC (360 - q) (by grind)).1]
  rw [hm]
  clear hm q1 q2
  by_cases c1 : e < 0 <;> by_cases c2 : n ≤ 0 <;> by_cases c3 : e ≤ 0 <;> by_cases c4 : 0 ≤ n <;> by_cases c5 : a < b <;> by_cases c6 : b < a <;> simp [c1, c2, c3, c4, c5, c6]
theorem degreeOf_33 {e n a b q s s' : Int32} {σ : Mm} (hs : ¬ s = 0) (hq : s' / s = q) (q1 : 0 ≤ q) (q2 : q ≤ 45) : F_X12_degreeOf_33 e n a b s s' σ = some (bearF e n a b q, σ) := by
  unfold F_X12_degreeOf_33 F_X12_degreeOf_60 F_X12_degreeOf_129 bearF
  rw [if_pos hs, hq]
  have h360 : (360 - q = 360) = (q = 0) := by clear hq; apply propext; constructor <;> intro z <;> grind
  have h270 : ¬ (270 + q = 360) := by clear hq h360; grind
  clear hq q1 q2 hs
  simp only [h360, h270, if_false]
  by_cases c1 : e < 0 <;> by_cases c2 : n ≤ 0 <;> by_cases c3 : e ≤ 0 <;> by_cases c4 : 0 ≤ n <;> by_cases c5 : a < b <;> by_cases c6 : b < a <;> by_cases c7 : q = 0 <;> simp [c1, c2, c3, c4, c5, c6, c7]
theorem mx_ne {a b : Int32} (ha : 0 ≤ a) (hb : 0 ≤ b) (h : ¬ (a = 0 ∧ b = 0)) : ¬ (if a < b then b else a) = 0 := by
  split <;> grind
theorem s_bearing {e n : Int32} {σ : Mm} (he : rB e) (hn : rB n) : F_X1_bearing e n σ = some (if e = 0 ∧ n = 0 then -1 else bear e n, σ) := by
  obtain ⟨a1, a2, a3⟩ := plain_in he
  obtain ⟨b1, b2, b3⟩ := plain_in hn
  unfold F_X1_bearing F_X1_bearing_17 f_J9_max_7cf53 f_J9_min_7cf53
  simp only [abs_eq]
  by_cases h0 : e = 0 ∧ n = 0
  · rw [if_pos h0, if_pos]
    rw [a3.mpr h0.1, b3.mpr h0.2]; rfl
  · have hz := mx_ne a1 b1 (fun z => h0 ⟨a3.mp z.1, b3.mp z.2⟩)
    obtain ⟨q1, q2⟩ := bearQ_in a1 (by clear a3 b3 h0 hz; grind) b1 (by clear a3 b3 h0 hz; grind) (fun z => h0 ⟨a3.mp z.1, b3.mp z.2⟩)
    rw [if_neg h0, if_neg hz, if_pos hz]
    exact bearing_37 q1 q2
theorem s_degreeOf {e n : Int32} {σ : Mm} (he : rB e) (hn : rB n) (h : ¬ (e = 0 ∧ n = 0)) : F_X12_degreeOf e n σ = some (bear e n, σ) := by
  obtain ⟨a1, a2, a3⟩ := plain_in he
  obtain ⟨b1, b2, b3⟩ := plain_in hn
  have hz := mx_ne a1 b1 (fun z => h ⟨a3.mp z.1, b3.mp z.2⟩)
  obtain ⟨q1, q2⟩ := bearQ_in a1 (by clear a3 b3 h hz; grind) b1 (by clear a3 b3 h hz; grind) (fun z => h ⟨a3.mp z.1, b3.mp z.2⟩)
  have key : F_X12_degreeOf e n σ = F_X12_degreeOf_33 e n (f_X12_plain e) (f_X12_plain n) (if f_X12_plain e < f_X12_plain n then f_X12_plain n else f_X12_plain e) (45 * (if f_X12_plain n < f_X12_plain e then f_X12_plain n else f_X12_plain e)) σ := by
    clear hz q1 q2
    unfold F_X12_degreeOf F_X12_degreeOf_22
    generalize f_X12_plain e = a
    generalize f_X12_plain n = b
    clear a1 a2 a3 b1 b2 b3 he hn
    by_cases d1 : b ≤ a
    · rw [if_pos d1]
      by_cases d2 : a ≤ b
      · have : a = b := by grind
        subst this
        rw [if_pos d2, if_neg (by grind)]
      · rw [if_neg d2, if_neg (show ¬ a < b by grind), if_pos (show b < a by grind)]
    · rw [if_neg d1, if_pos (show a ≤ b by grind), if_pos (show a < b by grind), if_neg (show ¬ b < a by grind)]
  rw [key]
  exact degreeOf_33 hz rfl q1 q2
theorem vec_eq {d x : Int32} (h : 0 ≤ d) : (if x = 0 then f_X1_eastward d else f_X1_northward d) = f_X12_vectorOf d x := by
  unfold f_X1_eastward f_X1_northward f_X12_vectorOf
  repeat' split
  all_goals rfl
theorem p_degree {h : Nat → Bool} {σ : Mm} (hI : Iv h σ) (x y : Int32) : ∃ (r : Int32) (σ1 : Mm) (σ2 : Mm), F_X11_degree x y σ = some (r, σ1) ∧ F_X12_degree x y σ1 = some (r, σ2) ∧ Iv h σ2 := by
  by_cases hv : rB x ∧ rB y
  · obtain ⟨hx, hy⟩ := hv
    refine ⟨if x = 0 ∧ y = 0 then -1 else bear x y, σ, σ, ?_, ?_, hI⟩
    · unfold F_X11_degree F_X11_degree_35
      rw [if_neg (by clear hI; grind), if_neg (by clear hI; grind), if_neg (by clear hI; grind), if_pos (by clear hI; grind), s_bearing hx hy, bnd_s]
    · unfold F_X12_degree F_X12_degree_34 F_X12_degree_38 F_X12_degree_43
      simp only [isInM, ite10]
      rw [if_neg (not_not_intro hx), if_neg (not_not_intro hy)]
      by_cases h0 : x = 0
      · rw [if_pos h0]
        by_cases h1 : y = 0
        · rw [if_pos h1, if_pos ⟨h0, h1⟩]
        · rw [if_neg h1, s_degreeOf hx hy (fun z => h1 z.2), bnd_s, if_neg (fun z => h1 z.2)]
      · rw [if_neg h0, s_degreeOf hx hy (fun z => h0 z.1), bnd_s, if_neg (fun z => h0 z.1)]
  · refine ⟨-1, σ, σ, ?_, ?_, hI⟩
    · unfold F_X11_degree F_X11_degree_35
      clear hI
      repeat' split
      all_goals first | rfl | (exfalso; grind)
    · unfold F_X12_degree F_X12_degree_34
      simp only [isInM, ite10]
      clear hI
      repeat' split
      all_goals first | rfl | (exfalso; grind)
theorem isDegreeC {x : Int32} : f_X11_isDegree x = if 0 ≤ x ∧ x ≤ 359 then 1 else 0 := by
  unfold f_X11_isDegree; grind
theorem p_vector {h : Nat → Bool} {σ : Mm} (hI : Iv h σ) (x y : Int32) : ∃ (r : Int32), f_X11_vector x y σ = r ∧ okP σ = true ∧ f_X12_vector x y σ = r ∧ okP σ = true ∧ Iv h σ := by
  refine ⟨f_X12_vector x y σ, ?_, okP_of hI.1, rfl, okP_of hI.1, hI⟩
  clear hI
  unfold f_X11_vector f_X12_vector
  simp only [isDegreeC, isInM, ite10]
  by_cases h1 : 0 ≤ x ∧ x ≤ 359
  · rw [if_neg (not_not_intro h1), if_neg (not_not_intro h1)]
    by_cases h2 : 0 ≤ y ∧ y ≤ 1
    · rw [if_neg (by grind), if_pos h2.2, if_neg (not_not_intro h2), vec_eq h1.1]
    · rw [if_pos (show ¬ (0 ≤ y ∧ y ≤ 1) from h2)]
      by_cases h3 : y < 0
      · rw [if_pos h3]
      · rw [if_neg h3, if_neg (by grind)]
  · rw [if_pos h1, if_pos h1]
theorem p_counts {h : Nat → Bool} {σ : Mm} (hI : Iv h σ) (a b c d e : Int32) : ∃ (r : Int32), f_X11_counts a b c d e σ = r ∧ okP σ = true ∧ f_X12_counts a b c d e σ = r ∧ okP σ = true ∧ Iv h σ := by
  refine ⟨f_X12_counts a b c d e σ, ?_, okP_of hI.1, rfl, okP_of hI.1, hI⟩
  clear hI
  unfold f_X11_counts f_X12_counts f_X12_isCounting
  simp only [isInM, ite10, abs_eq]
  generalize f_X12_plain (a * c - d * b) = v
  generalize e * b = w
  grind
theorem life_eq : ∀ n, F_X12_life_46 n = F_X11_life_48 n := by
  intro n
  induction n with
  | zero => rfl
  | succ n ih =>
    funext x1 x2 x3 x4 x5 x6 σ
    show B_X12_life_46 (F_X12_life_46 n) x1 x2 x3 x4 x5 x6 σ = B_X11_life_48 (F_X11_life_48 n) x1 x2 x3 x4 x5 x6 σ
    unfold B_X12_life_46 B_X11_life_48 F_X12_life_70 F_X11_life_68
    rw [ih, Int32.add_zero]
theorem life_ok {y m r c : Int32} {k : Nat} {σ : Mm} (hy : 0 ≤ y) (hy2 : y ≤ 5000) (hm : m = nI k) (hk : k ≤ 90) (hr : ¬ r = 0) : ∀ (n j : Nat) (a : Int32), k - j < n → j ≤ k → ∃ v, F_X11_life_48 n y m r c a (y + nI j) σ = some (v, σ) := by
  intro n
  induction n with
  | zero => intro j a hn; omega
  | succ n ih =>
    intro j a hn hj
    show ∃ v, B_X11_life_48 (F_X11_life_48 n) y m r c a (y + nI j) σ = some (v, σ)
    unfold B_X11_life_48 F_X11_life_68
    by_cases hd : y + m ≤ y + nI j
    · exact ⟨a, by rw [if_pos hd]⟩
    · have hj2 : j < k := by clear ih; grind [gI, gC]
      have e : y + nI j + 1 = y + nI (j + 1) := by rw [Int32.add_assoc, nI_1]
      rw [if_neg hd, if_pos hr, e]
      split
      · exact ih (j + 1) _ (by omega) (by omega)
      · exact ih (j + 1) _ (by omega) (by omega)
theorem isYearC {x : Int32} : f_X11_isYear x = if 0 ≤ x ∧ x ≤ 5000 then 1 else 0 := by
  unfold f_X11_isYear; grind
theorem isYearM {x : Int32} : f_X12_isYear x = if 0 ≤ x ∧ x ≤ 5000 then 1 else 0 := by
  unfold f_X12_isYear; grind
theorem p_life {h : Nat → Bool} {σ : Mm} (hI : Iv h σ) (y m r c : Int32) : ∃ (v : Int32) (σ1 : Mm) (σ2 : Mm), F_X11_life y m r c σ = some (v, σ1) ∧ F_X12_life y m r c σ1 = some (v, σ2) ∧ Iv h σ2 := by
  have key : ∃ v, F_X11_life y m r c σ = some (v, σ) ∧ F_X12_life y m r c σ = some (v, σ) := by
    clear hI
    unfold F_X11_life F_X12_life
    simp only [isYearC, isYearM, isInM, ite10, life_eq]
    by_cases h1 : 0 ≤ y ∧ y ≤ 5000
    · simp only [if_neg (not_not_intro h1)]
      by_cases h2 : 1 ≤ m ∧ m ≤ 90
      · simp only [if_neg (not_not_intro h2), if_neg (show ¬ m < 1 by grind), if_neg (show ¬ 90 < m by grind)]
        by_cases h3 : 2 ≤ r ∧ r ≤ 60
        · simp only [if_neg (not_not_intro h3), if_neg (show ¬ r < 2 by grind), if_neg (show ¬ 60 < r by grind)]
          have hm90 : m.toNatClampNeg ≤ 90 := by grind [gI, gC]
          obtain ⟨v, hv⟩ := life_ok (y := y) (m := m) (r := r) (c := c) (k := m.toNatClampNeg) (σ := σ) h1.1 h1.2 (gC m (by grind)).1 hm90 (by grind) FU 0 0 (Nat.lt_of_le_of_lt (Nat.sub_le _ _) (Nat.lt_of_le_of_lt hm90 (by decide))) (by omega)
          rw [nI_0, Int32.add_zero] at hv
          rw [hv]
          repeat' split
          all_goals exact ⟨_, rfl, rfl⟩
        · refine ⟨-1, ?_, ?_⟩
          · repeat' split
            all_goals first | rfl | (exfalso; grind)
          · rw [if_pos h3]
      · refine ⟨-1, ?_, ?_⟩
        · repeat' split
          all_goals first | rfl | (exfalso; grind)
        · rw [if_pos h2]
    · simp only [if_pos h1]; exact ⟨-1, rfl, rfl⟩
  obtain ⟨v, e1, e2⟩ := key
  exact ⟨v, σ, σ, e1, e2, hI⟩
