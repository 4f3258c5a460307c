/-! the model's copy of a site into another, by program (gen_copy.py) -/
def cz (k : Nat) : Nat := if k = 28 ∨ k = 31 then 1 else sz k
def nb (k : Nat) (v : Int32) : Int32 := if k = 9 ∨ k = 32 then vp_nar .boolean v else v
def grp (k : Nat) : Nat := if 9 ≤ k ∧ k ≤ 13 then 1 else if k = 15 ∨ k = 16 then 2 else if 18 ≤ k ∧ k ≤ 20 then 3 else if 22 ≤ k ∧ k ≤ 24 then 4 else if k = 26 ∨ k = 27 then 5 else if k = 29 ∨ k = 30 then 6 else if 32 ≤ k ∧ k ≤ 37 then 7 else if 39 ≤ k ∧ k ≤ 42 then 8 else 0
def dn (s i k : Nat) : Nat := if grp k < s then cz k else if grp k = s then i else 0
def CP (σ0 : Mm) (a b : Nat) (d : Nat → Nat) (σ : Mm) : Prop := (∀ k f, mA σ 3 0 k f = if cz k * b ≤ f ∧ f < cz k * b + d k then nb k (mA σ0 3 0 k (f - cz k * b + cz k * a)) else mA σ0 3 0 k f) ∧ ∀ k, d k ≤ cz k
theorem CP.cong {σ0 σ : Mm} {a b : Nat} {d d' : Nat → Nat} (h : CP σ0 a b d σ) (e : ∀ k, d k = d' k) : CP σ0 a b d' σ := by
  have : d = d' := funext e
  subst this; exact h
theorem blk_ne {N a b i j : Nat} (h : a ≠ b) (hi : i < N) (hj : j < N) : N * a + i ≠ N * b + j := by
  intro e
  apply h
  have h1 : (N * a + i) / N = a := by rw [Nat.mul_add_div (by omega), Nat.div_eq_of_lt hi]; rfl
  have h2 : (N * b + j) / N = b := by rw [Nat.mul_add_div (by omega), Nat.div_eq_of_lt hj]; rfl
  rw [← h1, e, h2]
theorem CP.step {σ0 σ : Mm} {a b : Nat} {d : Nat → Nat} {v : Int32} (h : CP σ0 a b d σ) (hab : a ≠ b) (k N i : Nat) (hN : cz k = N) (hd : d k = i) (hi : i < N) (hv : v = nb k (mA σ 3 0 k (N * a + i))) :
    CP σ0 a b (fun k' => if k' = k then i + 1 else d k') (setA σ 3 0 k (upd (mA σ 3 0 k) (N * b + i) v)) := by
  subst hN
  refine ⟨fun k' f => ?_, fun k' => ?_⟩
  · simp only [mA_A, mL_A, mP_A, mA_L, mL_L, mP_L, upd_at]
    by_cases hk : k' = k
    · subst hk
      simp only [and_self, if_true]
      by_cases hf : f = cz k' * b + i
      · subst hf
        rw [if_pos rfl, if_pos (by omega), hv, h.1 k', if_neg]
        · rw [show cz k' * b + i - cz k' * b + cz k' * a = cz k' * a + i by omega]
        · rintro ⟨h1, h2⟩
          obtain ⟨x, hx⟩ : ∃ x, cz k' * a + i = cz k' * b + x := ⟨cz k' * a + i - cz k' * b, by omega⟩
          exact blk_ne hab hi (j := x) (by omega) hx
      · rw [if_neg hf, h.1 k' f]
        by_cases hz : cz k' * b ≤ f ∧ f < cz k' * b + d k'
        · rw [if_pos hz, if_pos (by omega)]
        · rw [if_neg hz, if_neg (by omega)]
    · simp only [hk, and_false, if_false]; exact h.1 k' f
  · by_cases hk : k' = k
    · subst hk; show (if k' = k' then _ else _) ≤ _; rw [if_pos rfl]; omega
    · show (if k' = k then _ else _) ≤ _; rw [if_neg hk]; exact h.2 k'
theorem CP.step1 {σ0 σ : Mm} {a b : Nat} {d : Nat → Nat} {v : Int32} (h : CP σ0 a b d σ) (hab : a ≠ b) (k : Nat) (hN : cz k = 1) (hd : d k = 0) (hv : v = nb k (mA σ 3 0 k a)) :
    CP σ0 a b (fun k' => if k' = k then 1 else d k') (setA σ 3 0 k (upd (mA σ 3 0 k) b v)) := by
  have := h.step hab k 1 0 hN hd (by omega) (v := v) (by rw [hv]; simp)
  simpa using this

theorem grp_1 {k : Nat} (h : grp k = 1) : k = 9 ∨ k = 10 ∨ k = 11 ∨ k = 12 ∨ k = 13 := by
  unfold grp at h
  repeat' split at h
  all_goals omega
theorem cz_1 : ∀ k, grp k = 1 → cz k = 14 := by
  intro k h
  rcases grp_1 h with rfl | rfl | rfl | rfl | rfl
  all_goals rfl
theorem grp_2 {k : Nat} (h : grp k = 2) : k = 15 ∨ k = 16 := by
  unfold grp at h
  repeat' split at h
  all_goals omega
theorem cz_2 : ∀ k, grp k = 2 → cz k = 8 := by
  intro k h
  rcases grp_2 h with rfl | rfl
  all_goals rfl
theorem grp_3 {k : Nat} (h : grp k = 3) : k = 18 ∨ k = 19 ∨ k = 20 := by
  unfold grp at h
  repeat' split at h
  all_goals omega
theorem cz_3 : ∀ k, grp k = 3 → cz k = 12 := by
  intro k h
  rcases grp_3 h with rfl | rfl | rfl
  all_goals rfl
theorem grp_4 {k : Nat} (h : grp k = 4) : k = 22 ∨ k = 23 ∨ k = 24 := by
  unfold grp at h
  repeat' split at h
  all_goals omega
theorem cz_4 : ∀ k, grp k = 4 → cz k = 5 := by
  intro k h
  rcases grp_4 h with rfl | rfl | rfl
  all_goals rfl
theorem grp_5 {k : Nat} (h : grp k = 5) : k = 26 ∨ k = 27 := by
  unfold grp at h
  repeat' split at h
  all_goals omega
theorem cz_5 : ∀ k, grp k = 5 → cz k = 6 := by
  intro k h
  rcases grp_5 h with rfl | rfl
  all_goals rfl
theorem grp_6 {k : Nat} (h : grp k = 6) : k = 29 ∨ k = 30 := by
  unfold grp at h
  repeat' split at h
  all_goals omega
theorem cz_6 : ∀ k, grp k = 6 → cz k = 500 := by
  intro k h
  rcases grp_6 h with rfl | rfl
  all_goals rfl
theorem grp_7 {k : Nat} (h : grp k = 7) : k = 32 ∨ k = 33 ∨ k = 34 ∨ k = 35 ∨ k = 36 ∨ k = 37 := by
  unfold grp at h
  repeat' split at h
  all_goals omega
theorem cz_7 : ∀ k, grp k = 7 → cz k = 200 := by
  intro k h
  rcases grp_7 h with rfl | rfl | rfl | rfl | rfl | rfl
  all_goals rfl
theorem grp_8 {k : Nat} (h : grp k = 8) : k = 39 ∨ k = 40 ∨ k = 41 ∨ k = 42 := by
  unfold grp at h
  repeat' split at h
  all_goals omega
theorem cz_8 : ∀ k, grp k = 8 → cz k = 60 := by
  intro k h
  rcases grp_8 h with rfl | rfl | rfl | rfl
  all_goals rfl
theorem grp_le (k : Nat) : grp k ≤ 8 := by
  unfold grp
  repeat' split
  all_goals omega
theorem dn_next {s N : Nat} (hz : ∀ k, grp k = s → cz k = N) : ∀ k, dn s N k = dn (s + 1) 0 k := by
  intro k
  unfold dn
  rcases Nat.lt_trichotomy (grp k) s with h | h | h
  · rw [if_pos h, if_pos (by omega)]
  · rw [if_neg (by omega), if_pos h, if_pos (by omega), hz k h]
  · rw [if_neg (by omega), if_neg (by omega), if_neg (by omega)]
    split <;> rfl
theorem dn_last : ∀ k, dn 8 60 k = cz k := by
  intro k
  have := grp_le k
  unfold dn
  rcases Nat.lt_or_eq_of_le this with h | h
  · rw [if_pos h]
  · rw [if_neg (by omega), if_pos h, cz_8 k h]
theorem cz_0 {k : Nat} (h : grp k = 0) (h1 : ¬ (k = 7 ∨ k = 8 ∨ k = 14 ∨ k = 17 ∨ k = 21 ∨ k = 25 ∨ k = 38)) (h2 : ¬ (k = 28 ∨ k = 31)) : cz k = 0 := by
  unfold grp at h
  repeat' split at h
  all_goals first | omega | skip
  unfold cz sz
  rw [if_neg h2, if_neg h1, if_neg (by omega), if_neg (by omega), if_neg (by omega), if_neg (by omega), if_neg (by omega), if_neg (by omega), if_neg (by omega), if_neg (by omega)]

theorem cp_725 {σ0 : Mm} {a b : Nat} (ha : a < 5) (hb : b < 5) (hab : a ≠ b) {Q : Mm → Prop} (hq : ∀ σ, CP σ0 a b (dn 8 60) σ → Q σ) : ∀ (n i : Nat) (σ : Mm), 60 - i < n → i ≤ 60 → CP σ0 a b (dn 8 i) σ → Ok (F_X12_copy_725 n (nI a) (nI b) (nI i) σ) Q := by
  intro n
  induction n with
  | zero => intro i σ hn; omega
  | succ n ih =>
    intro i σ hn hi h
    change Ok (B_X12_copy_725 (F_X12_copy_725 n) _ _ _ _) _
    unfold B_X12_copy_725
    refine Ok_s (fun q => ?_) (fun q => ?_)
    · have e : i = 60 := by clear ih h hq; grind [gI, gC]
      subst e
      exact Ok_r (hq σ h)
    · have hi2 : i < 60 := by clear ih h hq; grind [gI, gC]
      have es : ((60 : Int32) * nI a + nI i).toNatClampNeg = 60 * a + i := by
        rw [show (60 : Int32) = nI 60 from rfl, pk_mul, nI_add, nI_clamp (by omega)]
      have ed : ((60 : Int32) * nI b + nI i).toNatClampNeg = 60 * b + i := by
        rw [show (60 : Int32) = nI 60 from rfl, pk_mul, nI_add, nI_clamp (by omega)]
      have gs : inb ((60 : Int32) * nI a + nI i) 300 = true := by
        rw [show (60 : Int32) = nI 60 from rfl, pk_mul, nI_add]; clear ih h hq es ed q; grind [gI, gB, gC]
      have gd : inb ((60 : Int32) * nI b + nI i) 300 = true := by
        rw [show (60 : Int32) = nI 60 from rfl, pk_mul, nI_add]; clear ih h hq es ed q gs; grind [gI, gB, gC]
      unfold F_X12_copy_753 F_X12_copy_775 F_X12_copy_797 F_X12_copy_819
      simp only [gs, gd, if_true, es, ed, nI_1]
      refine ih (i + 1) _ (by omega) (by omega) ?_
      refine CP.cong ((((h.step hab 39 60 i rfl (by simp [dn, grp]) hi2 rfl).step hab 40 60 i rfl (by simp [dn, grp]) hi2 rfl).step hab 41 60 i rfl (by simp [dn, grp]) hi2 rfl).step hab 42 60 i rfl (by simp [dn, grp]) hi2 rfl) (fun k => ?_)
      clear ih h hq es ed gs gd
      by_cases e42 : k = 42
      · subst e42; simp [dn, grp]
      by_cases e41 : k = 41
      · subst e41; simp [dn, grp]
      by_cases e40 : k = 40
      · subst e40; simp [dn, grp]
      by_cases e39 : k = 39
      · subst e39; simp [dn, grp]
      simp only [e39, e40, e41, e42, if_false]
      have hg : grp k ≠ 8 := fun z => by have := grp_8 z; omega
      unfold dn; rw [if_neg hg, if_neg hg]
theorem cp_566 {σ0 : Mm} {a b : Nat} (ha : a < 5) (hb : b < 5) (hab : a ≠ b) {Q : Mm → Prop} (hq : ∀ σ, CP σ0 a b (dn 7 200) σ → Ok (F_X12_copy_725 FU (nI a) (nI b) 0 σ) Q) : ∀ (n i : Nat) (σ : Mm), 200 - i < n → i ≤ 200 → CP σ0 a b (dn 7 i) σ → Ok (F_X12_copy_566 n (nI a) (nI b) (nI i) σ) Q := by
  intro n
  induction n with
  | zero => intro i σ hn; omega
  | succ n ih =>
    intro i σ hn hi h
    change Ok (B_X12_copy_566 (F_X12_copy_566 n) _ _ _ _) _
    unfold B_X12_copy_566
    refine Ok_s (fun q => ?_) (fun q => ?_)
    · have e : i = 200 := by clear ih h hq; grind [gI, gC]
      subst e
      exact hq σ h
    · have hi2 : i < 200 := by clear ih h hq; grind [gI, gC]
      have es : ((200 : Int32) * nI a + nI i).toNatClampNeg = 200 * a + i := by
        rw [show (200 : Int32) = nI 200 from rfl, pk_mul, nI_add, nI_clamp (by omega)]
      have ed : ((200 : Int32) * nI b + nI i).toNatClampNeg = 200 * b + i := by
        rw [show (200 : Int32) = nI 200 from rfl, pk_mul, nI_add, nI_clamp (by omega)]
      have gs : inb ((200 : Int32) * nI a + nI i) 1000 = true := by
        rw [show (200 : Int32) = nI 200 from rfl, pk_mul, nI_add]; clear ih h hq es ed q; grind [gI, gB, gC]
      have gd : inb ((200 : Int32) * nI b + nI i) 1000 = true := by
        rw [show (200 : Int32) = nI 200 from rfl, pk_mul, nI_add]; clear ih h hq es ed q gs; grind [gI, gB, gC]
      unfold F_X12_copy_597 F_X12_copy_621 F_X12_copy_645 F_X12_copy_669 F_X12_copy_693 F_X12_copy_717
      simp only [gs, gd, if_true, es, ed, nI_1]
      refine ih (i + 1) _ (by omega) (by omega) ?_
      refine CP.cong ((((((h.step hab 32 200 i rfl (by simp [dn, grp]) hi2 rfl).step hab 33 200 i rfl (by simp [dn, grp]) hi2 rfl).step hab 34 200 i rfl (by simp [dn, grp]) hi2 rfl).step hab 35 200 i rfl (by simp [dn, grp]) hi2 rfl).step hab 36 200 i rfl (by simp [dn, grp]) hi2 rfl).step hab 37 200 i rfl (by simp [dn, grp]) hi2 rfl) (fun k => ?_)
      clear ih h hq es ed gs gd
      by_cases e37 : k = 37
      · subst e37; simp [dn, grp]
      by_cases e36 : k = 36
      · subst e36; simp [dn, grp]
      by_cases e35 : k = 35
      · subst e35; simp [dn, grp]
      by_cases e34 : k = 34
      · subst e34; simp [dn, grp]
      by_cases e33 : k = 33
      · subst e33; simp [dn, grp]
      by_cases e32 : k = 32
      · subst e32; simp [dn, grp]
      simp only [e32, e33, e34, e35, e36, e37, if_false]
      have hg : grp k ≠ 7 := fun z => by have := grp_7 z; omega
      unfold dn; rw [if_neg hg, if_neg hg]
theorem cp_503 {σ0 : Mm} {a b : Nat} (ha : a < 5) (hb : b < 5) (hab : a ≠ b) {Q : Mm → Prop} (hq : ∀ σ, CP σ0 a b (dn 6 500) σ → Ok (F_X12_copy_566 FU (nI a) (nI b) 0 σ) Q) : ∀ (n i : Nat) (σ : Mm), 500 - i < n → i ≤ 500 → CP σ0 a b (dn 6 i) σ → Ok (F_X12_copy_503 n (nI a) (nI b) (nI i) σ) Q := by
  intro n
  induction n with
  | zero => intro i σ hn; omega
  | succ n ih =>
    intro i σ hn hi h
    change Ok (B_X12_copy_503 (F_X12_copy_503 n) _ _ _ _) _
    unfold B_X12_copy_503
    refine Ok_s (fun q => ?_) (fun q => ?_)
    · have e : i = 500 := by clear ih h hq; grind [gI, gC]
      subst e
      exact hq σ h
    · have hi2 : i < 500 := by clear ih h hq; grind [gI, gC]
      have es : ((500 : Int32) * nI a + nI i).toNatClampNeg = 500 * a + i := by
        rw [show (500 : Int32) = nI 500 from rfl, pk_mul, nI_add, nI_clamp (by omega)]
      have ed : ((500 : Int32) * nI b + nI i).toNatClampNeg = 500 * b + i := by
        rw [show (500 : Int32) = nI 500 from rfl, pk_mul, nI_add, nI_clamp (by omega)]
      have gs : inb ((500 : Int32) * nI a + nI i) 2500 = true := by
        rw [show (500 : Int32) = nI 500 from rfl, pk_mul, nI_add]; clear ih h hq es ed q; grind [gI, gB, gC]
      have gd : inb ((500 : Int32) * nI b + nI i) 2500 = true := by
        rw [show (500 : Int32) = nI 500 from rfl, pk_mul, nI_add]; clear ih h hq es ed q gs; grind [gI, gB, gC]
      unfold F_X12_copy_534 F_X12_copy_558
      simp only [gs, gd, if_true, es, ed, nI_1]
      refine ih (i + 1) _ (by omega) (by omega) ?_
      refine CP.cong ((h.step hab 29 500 i rfl (by simp [dn, grp]) hi2 rfl).step hab 30 500 i rfl (by simp [dn, grp]) hi2 rfl) (fun k => ?_)
      clear ih h hq es ed gs gd
      by_cases e30 : k = 30
      · subst e30; simp [dn, grp]
      by_cases e29 : k = 29
      · subst e29; simp [dn, grp]
      simp only [e29, e30, if_false]
      have hg : grp k ≠ 6 := fun z => by have := grp_6 z; omega
      unfold dn; rw [if_neg hg, if_neg hg]
theorem cp_445 {σ0 : Mm} {a b : Nat} (ha : a < 5) (hb : b < 5) (hab : a ≠ b) {Q : Mm → Prop} (hq : ∀ σ, CP σ0 a b (dn 5 6) σ → Ok (F_X12_copy_503 FU (nI a) (nI b) 0 σ) Q) : ∀ (n i : Nat) (σ : Mm), 6 - i < n → i ≤ 6 → CP σ0 a b (dn 5 i) σ → Ok (F_X12_copy_445 n (nI a) (nI b) (nI i) σ) Q := by
  intro n
  induction n with
  | zero => intro i σ hn; omega
  | succ n ih =>
    intro i σ hn hi h
    change Ok (B_X12_copy_445 (F_X12_copy_445 n) _ _ _ _) _
    unfold B_X12_copy_445
    refine Ok_s (fun q => ?_) (fun q => ?_)
    · have e : i = 6 := by clear ih h hq; grind [gI, gC]
      subst e
      exact hq σ h
    · have hi2 : i < 6 := by clear ih h hq; grind [gI, gC]
      have es : ((6 : Int32) * nI a + nI i).toNatClampNeg = 6 * a + i := by
        rw [show (6 : Int32) = nI 6 from rfl, pk_mul, nI_add, nI_clamp (by omega)]
      have ed : ((6 : Int32) * nI b + nI i).toNatClampNeg = 6 * b + i := by
        rw [show (6 : Int32) = nI 6 from rfl, pk_mul, nI_add, nI_clamp (by omega)]
      have gs : inb ((6 : Int32) * nI a + nI i) 30 = true := by
        rw [show (6 : Int32) = nI 6 from rfl, pk_mul, nI_add]; clear ih h hq es ed q; grind [gI, gB, gC]
      have gd : inb ((6 : Int32) * nI b + nI i) 30 = true := by
        rw [show (6 : Int32) = nI 6 from rfl, pk_mul, nI_add]; clear ih h hq es ed q gs; grind [gI, gB, gC]
      unfold F_X12_copy_473 F_X12_copy_495
      simp only [gs, gd, if_true, es, ed, nI_1]
      refine ih (i + 1) _ (by omega) (by omega) ?_
      refine CP.cong ((h.step hab 26 6 i rfl (by simp [dn, grp]) hi2 rfl).step hab 27 6 i rfl (by simp [dn, grp]) hi2 rfl) (fun k => ?_)
      clear ih h hq es ed gs gd
      by_cases e27 : k = 27
      · subst e27; simp [dn, grp]
      by_cases e26 : k = 26
      · subst e26; simp [dn, grp]
      simp only [e26, e27, if_false]
      have hg : grp k ≠ 5 := fun z => by have := grp_5 z; omega
      unfold dn; rw [if_neg hg, if_neg hg]
theorem cp_372 {σ0 : Mm} {a b : Nat} (ha : a < 5) (hb : b < 5) (hab : a ≠ b) {Q : Mm → Prop} (hq : ∀ σ, CP σ0 a b (dn 4 5) σ → Ok (F_X12_copy_445 FU (nI a) (nI b) 0 σ) Q) : ∀ (n i : Nat) (σ : Mm), 5 - i < n → i ≤ 5 → CP σ0 a b (dn 4 i) σ → Ok (F_X12_copy_372 n (nI a) (nI b) (nI i) σ) Q := by
  intro n
  induction n with
  | zero => intro i σ hn; omega
  | succ n ih =>
    intro i σ hn hi h
    change Ok (B_X12_copy_372 (F_X12_copy_372 n) _ _ _ _) _
    unfold B_X12_copy_372
    refine Ok_s (fun q => ?_) (fun q => ?_)
    · have e : i = 5 := by clear ih h hq; grind [gI, gC]
      subst e
      exact hq σ h
    · have hi2 : i < 5 := by clear ih h hq; grind [gI, gC]
      have es : ((5 : Int32) * nI a + nI i).toNatClampNeg = 5 * a + i := by
        rw [show (5 : Int32) = nI 5 from rfl, pk_mul, nI_add, nI_clamp (by omega)]
      have ed : ((5 : Int32) * nI b + nI i).toNatClampNeg = 5 * b + i := by
        rw [show (5 : Int32) = nI 5 from rfl, pk_mul, nI_add, nI_clamp (by omega)]
      have gs : inb ((5 : Int32) * nI a + nI i) 25 = true := by
        rw [show (5 : Int32) = nI 5 from rfl, pk_mul, nI_add]; clear ih h hq es ed q; grind [gI, gB, gC]
      have gd : inb ((5 : Int32) * nI b + nI i) 25 = true := by
        rw [show (5 : Int32) = nI 5 from rfl, pk_mul, nI_add]; clear ih h hq es ed q gs; grind [gI, gB, gC]
      unfold F_X12_copy_397 F_X12_copy_417 F_X12_copy_437
      simp only [gs, gd, if_true, es, ed, nI_1]
      refine ih (i + 1) _ (by omega) (by omega) ?_
      refine CP.cong (((h.step hab 22 5 i rfl (by simp [dn, grp]) hi2 rfl).step hab 23 5 i rfl (by simp [dn, grp]) hi2 rfl).step hab 24 5 i rfl (by simp [dn, grp]) hi2 rfl) (fun k => ?_)
      clear ih h hq es ed gs gd
      by_cases e24 : k = 24
      · subst e24; simp [dn, grp]
      by_cases e23 : k = 23
      · subst e23; simp [dn, grp]
      by_cases e22 : k = 22
      · subst e22; simp [dn, grp]
      simp only [e22, e23, e24, if_false]
      have hg : grp k ≠ 4 := fun z => by have := grp_4 z; omega
      unfold dn; rw [if_neg hg, if_neg hg]
theorem cp_292 {σ0 : Mm} {a b : Nat} (ha : a < 5) (hb : b < 5) (hab : a ≠ b) {Q : Mm → Prop} (hq : ∀ σ, CP σ0 a b (dn 3 12) σ → Ok (F_X12_copy_372 FU (nI a) (nI b) 0 σ) Q) : ∀ (n i : Nat) (σ : Mm), 12 - i < n → i ≤ 12 → CP σ0 a b (dn 3 i) σ → Ok (F_X12_copy_292 n (nI a) (nI b) (nI i) σ) Q := by
  intro n
  induction n with
  | zero => intro i σ hn; omega
  | succ n ih =>
    intro i σ hn hi h
    change Ok (B_X12_copy_292 (F_X12_copy_292 n) _ _ _ _) _
    unfold B_X12_copy_292
    refine Ok_s (fun q => ?_) (fun q => ?_)
    · have e : i = 12 := by clear ih h hq; grind [gI, gC]
      subst e
      exact hq σ h
    · have hi2 : i < 12 := by clear ih h hq; grind [gI, gC]
      have es : ((12 : Int32) * nI a + nI i).toNatClampNeg = 12 * a + i := by
        rw [show (12 : Int32) = nI 12 from rfl, pk_mul, nI_add, nI_clamp (by omega)]
      have ed : ((12 : Int32) * nI b + nI i).toNatClampNeg = 12 * b + i := by
        rw [show (12 : Int32) = nI 12 from rfl, pk_mul, nI_add, nI_clamp (by omega)]
      have gs : inb ((12 : Int32) * nI a + nI i) 60 = true := by
        rw [show (12 : Int32) = nI 12 from rfl, pk_mul, nI_add]; clear ih h hq es ed q; grind [gI, gB, gC]
      have gd : inb ((12 : Int32) * nI b + nI i) 60 = true := by
        rw [show (12 : Int32) = nI 12 from rfl, pk_mul, nI_add]; clear ih h hq es ed q gs; grind [gI, gB, gC]
      unfold F_X12_copy_320 F_X12_copy_342 F_X12_copy_364
      simp only [gs, gd, if_true, es, ed, nI_1]
      refine ih (i + 1) _ (by omega) (by omega) ?_
      refine CP.cong (((h.step hab 18 12 i rfl (by simp [dn, grp]) hi2 rfl).step hab 19 12 i rfl (by simp [dn, grp]) hi2 rfl).step hab 20 12 i rfl (by simp [dn, grp]) hi2 rfl) (fun k => ?_)
      clear ih h hq es ed gs gd
      by_cases e20 : k = 20
      · subst e20; simp [dn, grp]
      by_cases e19 : k = 19
      · subst e19; simp [dn, grp]
      by_cases e18 : k = 18
      · subst e18; simp [dn, grp]
      simp only [e18, e19, e20, if_false]
      have hg : grp k ≠ 3 := fun z => by have := grp_3 z; omega
      unfold dn; rw [if_neg hg, if_neg hg]
theorem cp_234 {σ0 : Mm} {a b : Nat} (ha : a < 5) (hb : b < 5) (hab : a ≠ b) {Q : Mm → Prop} (hq : ∀ σ, CP σ0 a b (dn 2 8) σ → Ok (F_X12_copy_292 FU (nI a) (nI b) 0 σ) Q) : ∀ (n i : Nat) (σ : Mm), 8 - i < n → i ≤ 8 → CP σ0 a b (dn 2 i) σ → Ok (F_X12_copy_234 n (nI a) (nI b) (nI i) σ) Q := by
  intro n
  induction n with
  | zero => intro i σ hn; omega
  | succ n ih =>
    intro i σ hn hi h
    change Ok (B_X12_copy_234 (F_X12_copy_234 n) _ _ _ _) _
    unfold B_X12_copy_234
    refine Ok_s (fun q => ?_) (fun q => ?_)
    · have e : i = 8 := by clear ih h hq; grind [gI, gC]
      subst e
      exact hq σ h
    · have hi2 : i < 8 := by clear ih h hq; grind [gI, gC]
      have es : ((8 : Int32) * nI a + nI i).toNatClampNeg = 8 * a + i := by
        rw [show (8 : Int32) = nI 8 from rfl, pk_mul, nI_add, nI_clamp (by omega)]
      have ed : ((8 : Int32) * nI b + nI i).toNatClampNeg = 8 * b + i := by
        rw [show (8 : Int32) = nI 8 from rfl, pk_mul, nI_add, nI_clamp (by omega)]
      have gs : inb ((8 : Int32) * nI a + nI i) 40 = true := by
        rw [show (8 : Int32) = nI 8 from rfl, pk_mul, nI_add]; clear ih h hq es ed q; grind [gI, gB, gC]
      have gd : inb ((8 : Int32) * nI b + nI i) 40 = true := by
        rw [show (8 : Int32) = nI 8 from rfl, pk_mul, nI_add]; clear ih h hq es ed q gs; grind [gI, gB, gC]
      unfold F_X12_copy_262 F_X12_copy_284
      simp only [gs, gd, if_true, es, ed, nI_1]
      refine ih (i + 1) _ (by omega) (by omega) ?_
      refine CP.cong ((h.step hab 15 8 i rfl (by simp [dn, grp]) hi2 rfl).step hab 16 8 i rfl (by simp [dn, grp]) hi2 rfl) (fun k => ?_)
      clear ih h hq es ed gs gd
      by_cases e16 : k = 16
      · subst e16; simp [dn, grp]
      by_cases e15 : k = 15
      · subst e15; simp [dn, grp]
      simp only [e15, e16, if_false]
      have hg : grp k ≠ 2 := fun z => by have := grp_2 z; omega
      unfold dn; rw [if_neg hg, if_neg hg]
theorem cp_110 {σ0 : Mm} {a b : Nat} (ha : a < 5) (hb : b < 5) (hab : a ≠ b) {Q : Mm → Prop} (hq : ∀ σ, CP σ0 a b (dn 1 14) σ → Ok (F_X12_copy_234 FU (nI a) (nI b) 0 σ) Q) : ∀ (n i : Nat) (σ : Mm), 14 - i < n → i ≤ 14 → CP σ0 a b (dn 1 i) σ → Ok (F_X12_copy_110 n (nI a) (nI b) (nI i) σ) Q := by
  intro n
  induction n with
  | zero => intro i σ hn; omega
  | succ n ih =>
    intro i σ hn hi h
    change Ok (B_X12_copy_110 (F_X12_copy_110 n) _ _ _ _) _
    unfold B_X12_copy_110
    refine Ok_s (fun q => ?_) (fun q => ?_)
    · have e : i = 14 := by clear ih h hq; grind [gI, gC]
      subst e
      exact hq σ h
    · have hi2 : i < 14 := by clear ih h hq; grind [gI, gC]
      have es : ((14 : Int32) * nI a + nI i).toNatClampNeg = 14 * a + i := by
        rw [show (14 : Int32) = nI 14 from rfl, pk_mul, nI_add, nI_clamp (by omega)]
      have ed : ((14 : Int32) * nI b + nI i).toNatClampNeg = 14 * b + i := by
        rw [show (14 : Int32) = nI 14 from rfl, pk_mul, nI_add, nI_clamp (by omega)]
      have gs : inb ((14 : Int32) * nI a + nI i) 70 = true := by
        rw [show (14 : Int32) = nI 14 from rfl, pk_mul, nI_add]; clear ih h hq es ed q; grind [gI, gB, gC]
      have gd : inb ((14 : Int32) * nI b + nI i) 70 = true := by
        rw [show (14 : Int32) = nI 14 from rfl, pk_mul, nI_add]; clear ih h hq es ed q gs; grind [gI, gB, gC]
      unfold F_X12_copy_138 F_X12_copy_160 F_X12_copy_182 F_X12_copy_204 F_X12_copy_226
      simp only [gs, gd, if_true, es, ed, nI_1]
      refine ih (i + 1) _ (by omega) (by omega) ?_
      refine CP.cong (((((h.step hab 9 14 i rfl (by simp [dn, grp]) hi2 rfl).step hab 10 14 i rfl (by simp [dn, grp]) hi2 rfl).step hab 11 14 i rfl (by simp [dn, grp]) hi2 rfl).step hab 12 14 i rfl (by simp [dn, grp]) hi2 rfl).step hab 13 14 i rfl (by simp [dn, grp]) hi2 rfl) (fun k => ?_)
      clear ih h hq es ed gs gd
      by_cases e13 : k = 13
      · subst e13; simp [dn, grp]
      by_cases e12 : k = 12
      · subst e12; simp [dn, grp]
      by_cases e11 : k = 11
      · subst e11; simp [dn, grp]
      by_cases e10 : k = 10
      · subst e10; simp [dn, grp]
      by_cases e9 : k = 9
      · subst e9; simp [dn, grp]
      simp only [e9, e10, e11, e12, e13, if_false]
      have hg : grp k ≠ 1 := fun z => by have := grp_1 z; omega
      unfold dn; rw [if_neg hg, if_neg hg]
theorem cp_all {σ0 : Mm} {a b : Nat} (ha : a < 5) (hb : b < 5) (hab : a ≠ b) : Ok (F_X12_copy (nI a) (nI b) σ0) (fun σ => CP σ0 a b cz σ) := by
  have ca : (nI a).toNatClampNeg = a := nI_clamp (by omega)
  have cb : (nI b).toNatClampNeg = b := nI_clamp (by omega)
  have ga : inb (nI a) 5 = true := by grind [gI, gB, gC]
  have gb : inb (nI b) 5 = true := by clear ga ca cb; grind [gI, gB, gC]
  unfold F_X12_copy F_X12_copy_12 F_X12_copy_24 F_X12_copy_36 F_X12_copy_48 F_X12_copy_60 F_X12_copy_72 F_X12_copy_84 F_X12_copy_96 F_X12_copy_108
  simp only [ga, gb, if_true, ca, cb]
  have h0 : CP σ0 a b (fun _ => 0) σ0 := ⟨fun k f => by rw [if_neg (by simp only [Nat.add_zero]; omega)], fun _ => Nat.zero_le _⟩

  have q8 := cp_725 ha hb hab (σ0 := σ0) (Q := fun σ => CP σ0 a b cz σ) (fun σ h => h.cong dn_last)
  have q7 := cp_566 ha hb hab (σ0 := σ0) (Q := fun σ => CP σ0 a b cz σ) (fun σ h => q8 FU 0 σ (by decide) (by omega) (h.cong (dn_next cz_7)))
  have q6 := cp_503 ha hb hab (σ0 := σ0) (Q := fun σ => CP σ0 a b cz σ) (fun σ h => q7 FU 0 σ (by decide) (by omega) (h.cong (dn_next cz_6)))
  have q5 := cp_445 ha hb hab (σ0 := σ0) (Q := fun σ => CP σ0 a b cz σ) (fun σ h => q6 FU 0 σ (by decide) (by omega) (h.cong (dn_next cz_5)))
  have q4 := cp_372 ha hb hab (σ0 := σ0) (Q := fun σ => CP σ0 a b cz σ) (fun σ h => q5 FU 0 σ (by decide) (by omega) (h.cong (dn_next cz_4)))
  have q3 := cp_292 ha hb hab (σ0 := σ0) (Q := fun σ => CP σ0 a b cz σ) (fun σ h => q4 FU 0 σ (by decide) (by omega) (h.cong (dn_next cz_3)))
  have q2 := cp_234 ha hb hab (σ0 := σ0) (Q := fun σ => CP σ0 a b cz σ) (fun σ h => q3 FU 0 σ (by decide) (by omega) (h.cong (dn_next cz_2)))
  have q1 := cp_110 ha hb hab (σ0 := σ0) (Q := fun σ => CP σ0 a b cz σ) (fun σ h => q2 FU 0 σ (by decide) (by omega) (h.cong (dn_next cz_1)))
  refine q1 FU 0 _ (by decide) (by omega) (CP.cong (((((((((h0.step1 hab 7 rfl (by simp) rfl).step1 hab 8 rfl (by simp) rfl).step1 hab 14 rfl (by simp) rfl).step1 hab 17 rfl (by simp) rfl).step1 hab 21 rfl (by simp) rfl).step1 hab 25 rfl (by simp) rfl).step1 hab 28 rfl (by simp) rfl).step1 hab 31 rfl (by simp) rfl).step1 hab 38 rfl (by simp) rfl) (fun k => ?_))
  by_cases e38 : k = 38
  · subst e38; rfl
  by_cases e31 : k = 31
  · subst e31; rfl
  by_cases e28 : k = 28
  · subst e28; rfl
  by_cases e25 : k = 25
  · subst e25; rfl
  by_cases e21 : k = 21
  · subst e21; rfl
  by_cases e17 : k = 17
  · subst e17; rfl
  by_cases e14 : k = 14
  · subst e14; rfl
  by_cases e8 : k = 8
  · subst e8; rfl
  by_cases e7 : k = 7
  · subst e7; rfl
  simp only [e7, e8, e14, e17, e21, e25, e28, e31, e38, if_false]
  unfold dn
  split
  · rename_i hg; rw [cz_0 (by omega) (by omega) (by omega)]
  · split <;> rfl
