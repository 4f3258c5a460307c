/-! how many point, how many ways -/
theorem plain_d {a b : Int32} (ha : 0 ≤ a) (ha' : a ≤ 359) (hb : 0 ≤ b) (hb' : b ≤ 359) : 0 ≤ f_X12_plain (a - b) ∧ f_X12_plain (a - b) ≤ 359 := by
  have h1 : a - b ≤ 359 := by grind
  have h2 : -359 ≤ a - b := by grind
  generalize a - b = v at *
  unfold f_X12_plain
  split
  · rename_i h; exact ⟨h, h1⟩
  · rename_i h; exact ⟨by grind, by grind⟩
theorem apart_eq {a b : Int32} (ha : rIn a 359) (hb : rIn b 359) : f_X1_apart a b = f_X12_apart a b := by
  have h := plain_d ha.1 ha.2 hb.1 hb.2
  unfold f_X1_apart f_X12_apart f_J9_min_7cf53
  simp only [abs_eq]
  generalize f_X12_plain (a - b) = v at *
  by_cases h1 : v ≤ 180
  · rw [if_pos h1, if_neg (by clear ha hb; grind)]
  · rw [if_neg h1, if_pos (by clear ha hb; grind)]
theorem near_w {σ : Mm} {s : Nat} {x y : Int32} (hs : s ≤ 6) (hc : mA σ 0 0 0 12 = nI s) (hm : mA σ 3 0 0 52 = nI s) (hk : ∀ k, k < s → mA σ 0 0 3 k = mA σ 3 0 45 k ∧ mA σ 0 0 4 k = mA σ 3 0 46 k ∧ rIn (mA σ 0 0 3 k) 359 ∧ rIn (mA σ 0 0 4 k) 359) (hx : rIn x 359) :
    ∀ (n k c : Nat), s - k < n → k ≤ s → c ≤ k → ∃ r : Nat, r ≤ s ∧ F_X11_near_w_6 n x y (nI c) (nI k) σ = some (nI r, σ) ∧ F_X12_pointed_6 n x y 0 (nI c) (nI k) σ = some (nI r, σ) := by
  intro n
  induction n with
  | zero => intro k c h; omega
  | succ n ih =>
    intro k c hn hks hck
    show ∃ r : Nat, r ≤ s ∧ B_X11_near_w_6 (F_X11_near_w_6 n) x y (nI c) (nI k) σ = some (nI r, σ) ∧ B_X12_pointed_6 (F_X12_pointed_6 n) x y 0 (nI c) (nI k) σ = some (nI r, σ)
    unfold B_X11_near_w_6 F_X11_near_w_30 B_X12_pointed_6 F_X12_pointed_38 F_X12_pointed_51
    rw [hc, hm]
    by_cases hd : s ≤ k
    · exact ⟨c, by omega, by rw [if_pos (nI_le hd (by omega))], by rw [if_pos (nI_le hd (by omega))]⟩
    · have hi : inb (nI k) 6 = true := by clear ih hk; grind [gI, gB, gC]
      have hcl : (nI k).toNatClampNeg = k := nI_clamp (by omega)
      obtain ⟨e1, -, e3, -⟩ := hk k (by omega)
      rw [if_neg (nI_ge (by omega) (by omega)), if_pos hi, if_neg (nI_ge (by omega) (by omega)), if_pos rfl, if_pos hi, hcl, apart_eq e3 hx, ← e1, nI_1]
      by_cases hp : y < f_X12_apart (mA σ 0 0 3 k) x
      · rw [if_pos hp, if_pos hp, show nI c + 0 = nI c from Int32.add_zero _]
        exact ih (k + 1) c (by omega) (by omega) (by omega)
      · rw [if_neg hp, if_neg hp, nI_1]
        exact ih (k + 1) (c + 1) (by omega) (by omega) (by omega)
theorem near_l {σ : Mm} {s : Nat} {x y z : Int32} (hz : ¬ z = 0) (hs : s ≤ 6) (hc : mA σ 0 0 0 12 = nI s) (hm : mA σ 3 0 0 52 = nI s) (hk : ∀ k, k < s → mA σ 0 0 3 k = mA σ 3 0 45 k ∧ mA σ 0 0 4 k = mA σ 3 0 46 k ∧ rIn (mA σ 0 0 3 k) 359 ∧ rIn (mA σ 0 0 4 k) 359) (hx : rIn x 359) :
    ∀ (n k c : Nat), s - k < n → k ≤ s → c ≤ k → ∃ r : Nat, r ≤ s ∧ F_X11_near_l_6 n x y (nI c) (nI k) σ = some (nI r, σ) ∧ F_X12_pointed_6 n x y z (nI c) (nI k) σ = some (nI r, σ) := by
  intro n
  induction n with
  | zero => intro k c h; omega
  | succ n ih =>
    intro k c hn hks hck
    show ∃ r : Nat, r ≤ s ∧ B_X11_near_l_6 (F_X11_near_l_6 n) x y (nI c) (nI k) σ = some (nI r, σ) ∧ B_X12_pointed_6 (F_X12_pointed_6 n) x y z (nI c) (nI k) σ = some (nI r, σ)
    unfold B_X11_near_l_6 F_X11_near_l_30 B_X12_pointed_6 F_X12_pointed_38 F_X12_pointed_51
    rw [hc, hm]
    by_cases hd : s ≤ k
    · exact ⟨c, by omega, by rw [if_pos (nI_le hd (by omega))], by rw [if_pos (nI_le hd (by omega))]⟩
    · have hi : inb (nI k) 6 = true := by clear ih hk; grind [gI, gB, gC]
      have hcl : (nI k).toNatClampNeg = k := nI_clamp (by omega)
      obtain ⟨-, e1, -, e3⟩ := hk k (by omega)
      rw [if_neg (nI_ge (by omega) (by omega)), if_pos hi, if_neg (nI_ge (by omega) (by omega)), if_neg hz, if_pos hi, hcl, apart_eq e3 hx, ← e1, nI_1]
      by_cases hp : y < f_X12_apart (mA σ 0 0 4 k) x
      · rw [if_pos hp, if_pos hp, show nI c + 0 = nI c from Int32.add_zero _]
        exact ih (k + 1) c (by omega) (by omega) (by omega)
      · rw [if_neg hp, if_neg hp, nI_1]
        exact ih (k + 1) (c + 1) (by omega) (by omega) (by omega)
theorem p_pointing {h : Nat → Bool} {σ : Mm} (hI : Iv h σ) (x y b : Int32) : ∃ (r : Int32) (σ1 : Mm) (σ2 : Mm), F_X11_pointing x y b σ = some (r, σ1) ∧ F_X12_pointing x y b σ1 = some (r, σ2) ∧ Iv h σ2 := by
  obtain ⟨s, hs, hc, hm, hk⟩ := hI.2.2.2.1
  have key : ∃ r, F_X11_pointing x y b σ = some (r, σ) ∧ F_X12_pointing x y b σ = some (r, σ) := by
    unfold F_X11_pointing F_X11_pointing_37 F_X11_pointing_37_1 F_X11_pointing_40 F_X12_pointing F_X12_pointing_28
    simp only [isDegreeC, isInM, ite10]
    by_cases h1 : 0 ≤ x ∧ x ≤ 359
    · by_cases h2 : 0 ≤ y ∧ y ≤ 20
      · rw [if_neg (not_not_intro h1), if_neg (show ¬ y < 0 by clear hI hk hc hm; grind), if_pos h2.2, if_neg (not_not_intro h1), if_neg (not_not_intro h2)]
        by_cases h3 : b = 0
        · subst h3
          obtain ⟨r, -, e1, e2⟩ := near_w (y := y) hs hc hm hk h1 FU 0 0 (by show _ < 1000000; omega) (by omega) (by omega)
          rw [if_pos rfl]
          have e1' : F_X11_near_w x y σ = some (nI r, σ) := e1
          have e2' : F_X12_pointed x y 0 σ = some (nI r, σ) := e2
          rw [e1', e2', bnd_s]
          exact ⟨_, rfl, rfl⟩
        · obtain ⟨r, -, e1, e2⟩ := near_l (y := y) h3 hs hc hm hk h1 FU 0 0 (by show _ < 1000000; omega) (by omega) (by omega)
          rw [if_neg h3]
          have e1' : F_X11_near_l x y σ = some (nI r, σ) := e1
          have e2' : F_X12_pointed x y b σ = some (nI r, σ) := e2
          rw [e1', e2', bnd_s]
          exact ⟨_, rfl, rfl⟩
      · rw [if_neg (not_not_intro h1), if_neg (not_not_intro h1), if_pos (show ¬ (0 ≤ y ∧ y ≤ 20) from h2)]
        refine ⟨-1, ?_, rfl⟩
        by_cases h3 : y < 0
        · rw [if_pos h3]
        · rw [if_neg h3, if_neg (show ¬ y ≤ 20 by clear hI hk hc hm; grind)]
    · rw [if_pos h1, if_pos h1]; exact ⟨-1, rfl, rfl⟩
  obtain ⟨r, e1, e2⟩ := key
  exact ⟨r, σ, σ, e1, e2, hI⟩
def pw (b : Int32) : Nat → Int64
  | 0 => 1
  | t + 1 => pw b t * b.toInt64
theorem power_l {b : Int32} {t : Nat} (ht : t < 100) {σ : Mm} : ∀ (n j : Nat), t - j < n → j ≤ t → F_X11_power_5 n b (nI t) (pw b j) (nI j) σ = some (pw b t, σ) ∧ F_X12_power_5 n b (nI t) (pw b j) (nI j) σ = some (pw b t, σ) := by
  intro n
  induction n with
  | zero => intro j h; omega
  | succ n ih =>
    intro j hn hj
    show B_X11_power_5 (F_X11_power_5 n) b (nI t) (pw b j) (nI j) σ = some (pw b t, σ) ∧ B_X12_power_5 (F_X12_power_5 n) b (nI t) (pw b j) (nI j) σ = some (pw b t, σ)
    unfold B_X11_power_5 B_X12_power_5
    by_cases hd : t ≤ j
    · have e : j = t := by omega
      subst e
      exact ⟨by rw [if_pos (nI_le hd (by omega))], by rw [if_pos (nI_le hd (by omega))]⟩
    · rw [if_neg (nI_ge (by omega) (by omega)), if_neg (nI_ge (by omega) (by omega)), nI_1]
      exact ih (j + 1) (by omega) (by omega)
theorem powerC {b : Int32} {t : Nat} (ht : t < 100) {σ : Mm} : F_X11_power b (nI t) σ = some (pw b t, σ) := (power_l ht FU 0 (by show _ < 1000000; omega) (by omega)).1
theorem powerM {b : Int32} {t : Nat} (ht : t < 100) {σ : Mm} : F_X12_power b (nI t) σ = some (pw b t, σ) := (power_l ht FU 0 (by show _ < 1000000; omega) (by omega)).2
def chM (n j : Nat) : Nat → Int64
  | 0 => 1
  | i + 1 => (chM n j i * lN (n - j + (i + 1))) / lN (i + 1)
def chC (n : Nat) : Nat → Int64
  | 0 => 1
  | j + 1 => (chC n j * lN (n - j)) / lN (j + 1)
set_option maxRecDepth 100000 in
theorem ch_eq : ∀ n, n < 13 → ∀ j, j < n + 1 → chC n j = chM n j j := by decide +kernel
theorem nI_64 {n : Nat} (h : n < 2 ^ 31) : (nI n).toInt64 = lN n := nI_l h
theorem lN_ne {n : Nat} (h0 : 0 < n) (h : n < 1000) : ¬ lN n = 0 := by
  intro z
  have h2 := lN_toInt (n := n) (by omega)
  rw [z] at h2
  have : (0 : Int64).toInt = 0 := rfl
  omega
theorem chosen_l {m j : Nat} (hm : m < 13) (hj : j ≤ m) {σ : Mm} : ∀ (n i : Nat), j - i < n → i ≤ j → F_X12_chosen_5 n (nI m) (nI j) (chM m j i) (nI (i + 1)) σ = some (chM m j j, σ) := by
  intro n
  induction n with
  | zero => intro i h; omega
  | succ n ih =>
    intro i hn hi
    show B_X12_chosen_5 (F_X12_chosen_5 n) (nI m) (nI j) (chM m j i) (nI (i + 1)) σ = some (chM m j j, σ)
    unfold B_X12_chosen_5 F_X12_chosen_25
    by_cases hd : i = j
    · subst hd
      rw [if_pos (nI_lt (by omega) (by omega))]
    · rw [if_neg (nI_nlt (by omega) (by omega)), nI_64 (by omega), if_pos (lN_ne (by omega) (by omega)), pk_sub hj, nI_add, nI_64 (by omega), nI_1]
      exact ih (i + 1) (by omega) (by omega)
theorem chosenM {m j : Nat} (hm : m < 13) (hj : j ≤ m) {σ : Mm} : F_X12_chosen (nI m) (nI j) σ = some (chC m j, σ) := by
  rw [ch_eq m hm j (by omega)]
  exact chosen_l hm hj FU 0 (by show _ < 1000000; omega) (by omega)
/-- the sum of the rows from k on, up to j -/
def tS (n k : Nat) (a b : Int32) : Nat → Int64
  | 0 => 0
  | j + 1 => if k ≤ j then tS n k a b j + (chC n j * pw a j) * pw b (n - j) else tS n k a b j
theorem tS_0 {n k : Nat} {a b : Int32} : ∀ j, j ≤ k → tS n k a b j = 0 := by
  intro j
  induction j with
  | zero => intro _; rfl
  | succ j ih =>
    intro h
    show (if k ≤ j then _ else _) = _
    rw [if_neg (by omega)]; exact ih (by omega)
theorem ways_l {m k : Nat} {a b : Int32} (hm : m < 13) (hk : k < 100) {σ : Mm} : ∀ (n j : Nat), m + 1 - j < n → j ≤ m + 1 → F_X11_ways_9 n (nI m) (nI k) a b (tS m k a b j) (chC m j) (nI j) σ = some (tS m k a b (m + 1), σ) := by
  intro n
  induction n with
  | zero => intro j h; omega
  | succ n ih =>
    intro j hn hj
    show B_X11_ways_9 (F_X11_ways_9 n) (nI m) (nI k) a b (tS m k a b j) (chC m j) (nI j) σ = _
    unfold B_X11_ways_9 F_X11_ways_44 F_X11_ways_60 F_X11_ways_31 F_X11_ways_40
    by_cases hd : m < j
    · have e : j = m + 1 := by omega
      subst e
      rw [if_pos (nI_lt hd (by omega))]
    · unfold F_X11_ways_44 F_X11_ways_60
      have e1 : (Int32.toInt64 (nI j + 1)) = lN (j + 1) := by rw [nI_1, nI_64 (by omega)]
      have e2 : Int32.toInt64 (nI m - nI j) = lN (m - j) := by rw [pk_sub (by omega), nI_64 (by omega)]
      have i1 := ih (j + 1) (by omega) (by omega)
      rw [if_neg (nI_nlt (by omega) (by omega))]
      by_cases hkj : j < k
      · rw [if_pos (nI_lt hkj (by omega)), e1, e2, if_pos (lN_ne (by omega) (by omega)), nI_1]
        have : tS m k a b (j + 1) = tS m k a b j := by
          show (if k ≤ j then _ else _) = _
          rw [if_neg (by omega)]
        rw [this] at i1
        exact i1
      · rw [if_neg (nI_nlt (by omega) (by omega)), powerC (by omega), bnl_s, pk_sub (by omega), powerC (by omega), bnl_s, e1, nI_64 (by omega), if_pos (lN_ne (by omega) (by omega)), nI_1]
        have : tS m k a b (j + 1) = tS m k a b j + (chC m j * pw a j) * pw b (m - j) := by
          show (if k ≤ j then _ else _) = _
          rw [if_pos (by omega)]
        rw [this] at i1
        exact i1
theorem waysC {m k : Nat} {a b : Int32} (hm : m < 13) (hk : k < 100) {σ : Mm} : F_X11_ways (nI m) (nI k) a b σ = some (tS m k a b (m + 1), σ) :=
  ways_l hm hk FU 0 (by show _ < 1000000; omega) (by omega)
theorem rows_l {m k : Nat} {a b : Int32} (hm : m < 13) (hk : k < 100) {σ : Mm} : ∀ (n j : Nat), m + 1 - j < n → k ≤ j → j ≤ m + 1 → F_X12_rows_6 n (nI m) a b (tS m k a (b - a) j) (nI j) σ = some (tS m k a (b - a) (m + 1), σ) := by
  intro n
  induction n with
  | zero => intro j h; omega
  | succ n ih =>
    intro j hn hkj hj
    show B_X12_rows_6 (F_X12_rows_6 n) (nI m) a b (tS m k a (b - a) j) (nI j) σ = _
    unfold B_X12_rows_6 F_X12_rows_20 F_X12_rows_26 F_X12_rows_37
    by_cases hd : m < j
    · have e : j = m + 1 := by omega
      subst e
      rw [if_pos (nI_lt hd (by omega))]
    · have i1 := ih (j + 1) (by omega) (by omega) (by omega)
      rw [if_neg (nI_nlt (by omega) (by omega)), chosenM hm (by omega), bnl_s, powerM (by omega), bnl_s, pk_sub (by omega), powerM (by omega), bnl_s, nI_1]
      have : tS m k a (b - a) (j + 1) = tS m k a (b - a) j + (chC m j * pw a j) * pw (b - a) (m - j) := by
        show (if k ≤ j then _ else _) = _
        rw [if_pos (by omega)]
      rw [this] at i1
      exact i1
theorem rowsM {m k : Nat} {a b : Int32} (hm : m < 13) (hk : k < 100) {σ : Mm} : F_X12_rows (nI m) (nI k) a b σ = some (tS m k a (b - a) (m + 1), σ) := by
  unfold F_X12_rows
  by_cases hkm : k ≤ m + 1
  · have := rows_l (a := a) (b := b) hm hk (σ := σ) FU k (by show _ < 1000000; omega) (by omega) hkm
    rw [tS_0 k (by omega)] at this
    exact this
  · rw [tS_0 (m + 1) (by omega), show FU = 999999 + 1 from rfl]
    show B_X12_rows_6 _ _ _ _ _ _ _ = _
    unfold B_X12_rows_6
    rw [if_pos (nI_lt (by omega) (by omega))]
theorem p_seen {h : Nat → Bool} {σ : Mm} (hI : Iv h σ) (n k a b : Int32) : ∃ (r : Int64) (σ1 : Mm) (σ2 : Mm), F_X11_seen n k a b σ = some (r, σ1) ∧ F_X12_seen n k a b σ1 = some (r, σ2) ∧ Iv h σ2 := by
  have key : ∃ r, F_X11_seen n k a b σ = some (r, σ) ∧ F_X12_seen n k a b σ = some (r, σ) := by
    clear hI
    unfold F_X11_seen F_X11_seen_57 F_X12_seen F_X12_seen_49
    simp only [isInM, ite10]
    by_cases h1 : 0 ≤ n ∧ n ≤ 12
    · by_cases h2 : 0 ≤ k ∧ k ≤ 13
      · by_cases h3 : 1 ≤ b ∧ b ≤ 9
        · by_cases h4 : 0 ≤ a ∧ a ≤ b
          · rw [if_neg (show ¬ n < 0 by grind), if_neg (show ¬ 12 < n by grind), if_neg (show ¬ k < 0 by grind), if_neg (show ¬ 13 < k by grind), if_neg (show ¬ b < 1 by grind), if_neg (show ¬ 9 < b by grind), if_neg (show ¬ a < 0 by grind), if_pos h4.2, if_neg (not_not_intro h1), if_neg (not_not_intro h2), if_neg (not_not_intro h3), if_neg (not_not_intro h4)]
            obtain ⟨m, hm, rfl⟩ : ∃ m : Nat, m < 13 ∧ n = nI m := ⟨n.toNatClampNeg, by grind [gI, gC], by grind [gI, gC]⟩
            obtain ⟨q, hq, rfl⟩ : ∃ q : Nat, q < 100 ∧ k = nI q := ⟨k.toNatClampNeg, by grind [gI, gC], by grind [gI, gC]⟩
            rw [waysC hm hq, rowsM hm hq, bnl_s]
            exact ⟨_, rfl, rfl⟩
          · refine ⟨-1, ?_, by rw [if_neg (not_not_intro h1), if_neg (not_not_intro h2), if_neg (not_not_intro h3), if_pos h4]⟩
            repeat' split
            all_goals first | rfl | (exfalso; grind)
        · refine ⟨-1, ?_, by rw [if_neg (not_not_intro h1), if_neg (not_not_intro h2), if_pos h3]⟩
          repeat' split
          all_goals first | rfl | (exfalso; grind)
      · refine ⟨-1, ?_, by rw [if_neg (not_not_intro h1), if_pos h2]⟩
        repeat' split
        all_goals first | rfl | (exfalso; grind)
    · refine ⟨-1, ?_, by rw [if_pos h1]⟩
      repeat' split
      all_goals first | rfl | (exfalso; grind)
  obtain ⟨r, e1, e2⟩ := key
  exact ⟨r, σ, σ, e1, e2, hI⟩
theorem p_chance {h : Nat → Bool} {σ : Mm} (hI : Iv h σ) (x y : Int32) : ∃ (r : Int64) (σ1 : Mm) (σ2 : Mm), F_X11_chance x y σ = some (r, σ1) ∧ F_X12_chance x y σ1 = some (r, σ2) ∧ Iv h σ2 := by
  obtain ⟨s, hs, hc, hm, hk⟩ := hI.2.2.2.1
  have key : ∃ r, F_X11_chance x y σ = some (r, σ) ∧ F_X12_chance x y σ = some (r, σ) := by
    unfold F_X11_chance F_X11_chance_27 F_X11_chance_41 F_X11_chance_50 F_X12_chance F_X12_chance_32 F_X12_chance_43
    simp only [isDegreeC, isInM, ite10]
    by_cases h1 : 0 ≤ x ∧ x ≤ 359
    · by_cases h2 : 0 ≤ y ∧ y ≤ 20
      · rw [if_neg (not_not_intro h1), if_neg (show ¬ y < 0 by clear hI hk hc hm; grind), if_pos h2.2, if_neg (not_not_intro h1), if_neg (not_not_intro h2)]
        obtain ⟨r, hr, e1, e2⟩ := near_w (y := y) hs hc hm hk h1 FU 0 0 (by show _ < 1000000; omega) (by omega) (by omega)
        have e1' : F_X11_near_w x y σ = some (nI r, σ) := e1
        have e2' : F_X12_pointed x y 0 σ = some (nI r, σ) := e2
        simp only [e1', e2', bnd_s]
        rw [hc, hm, waysC (by omega) (by omega), rowsM (by omega) (by omega), bnl_s]
        exact ⟨_, rfl, rfl⟩
      · rw [if_neg (not_not_intro h1), if_neg (not_not_intro h1), if_pos (show ¬ (0 ≤ y ∧ y ≤ 20) from h2)]
        refine ⟨-1, ?_, rfl⟩
        by_cases h3 : y < 0
        · rw [if_pos h3]
        · rw [if_neg h3, if_neg (show ¬ y ≤ 20 by clear hI hk hc hm; grind)]
    · rw [if_pos h1, if_pos h1]; exact ⟨-1, rfl, rfl⟩
  obtain ⟨r, e1, e2⟩ := key
  exact ⟨r, σ, σ, e1, e2, hI⟩
